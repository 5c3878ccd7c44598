def f_Law_tricks_j128 (k6 : Int32 → Int32 → Int32 → Int32 → Int32 → Int32 → jW → Option (Int32 × jW)) (k28 : Int32 → Int32 → Int32 → Int32 → Int32 → Int32 → Int32 → Int32 → jW → Option (Int32 × jW)) (k90 : Int32 → Int32 → Int32 → Int32 → Int32 → Int32 → Int32 → Int32 → Int32 → Int32 → jW → Option (Int32 × jW)) (k102 : Int32 → Int32 → Int32 → Int32 → Int32 → Int32 → Int32 → Int32 → Int32 → Int32 → Int32 → Int32 → jW → Option (Int32 × jW)) (x3 : Int32) (x4 : Int32) (x8 : Int32) (x9 : Int32) (x10 : Int32) (x11 : Int32) (x12 : Int32) (x13 : Int32) (x14 : Int32) (x15 : Int32) (x16 : Int32) (x17 : Int32) (s0 : Int32) (s1 : Int32) (w : jW) : Option (Int32 × jW) :=
  if s1 = s0 then
    k102 x3 x4 x8 x9 x10 x11 x12 x13 x14 x15 x17 (x17 + 1) w
  else
    k102 x3 x4 x8 x9 x10 x11 x12 x13 x14 x15 x16 (x17 + 1) w
set_option maxRecDepth 20000 in
set_option maxHeartbeats 40000000 in
theorem t_Law_tricks_j128 {l : Launch} {G : jG} (hG : jX G) {k6 : Int32 → Int32 → Int32 → Int32 → Int32 → Int32 → jW → Option (Int32 × jW)} {k28 : Int32 → Int32 → Int32 → Int32 → Int32 → Int32 → Int32 → Int32 → jW → Option (Int32 × jW)} {k90 : Int32 → Int32 → Int32 → Int32 → Int32 → Int32 → Int32 → Int32 → Int32 → Int32 → jW → Option (Int32 × jW)} {k102 : Int32 → Int32 → Int32 → Int32 → Int32 → Int32 → Int32 → Int32 → Int32 → Int32 → Int32 → Int32 → jW → Option (Int32 × jW)} (hk6 : ∀ (x3 : Int32) (x4 : Int32) (x8 : Int32) (x9 : Int32) (x10 : Int32) (x11 : Int32) (w : jW) (z : (Int32 × jW)), k6 x3 x4 x8 x9 x10 x11 w = some z → Ev l G (jrm d_Law_tricks 0 0) y_Law_tricks (some (.int z.1), (jRx 101), z.2) 0 0 0 0 6 [some (.ref 2), some (.ref 98), some (.ref 99), some (.int x3), some (.int x4), some (.ref 93), some (.ref 95), some (.ref 100), some (.int x8), some (.int x9), some (.int x10), some (.int x11), none, none, none, none, none, none] [] (jRx 101) w) (hk28 : ∀ (x3 : Int32) (x4 : Int32) (x8 : Int32) (x9 : Int32) (x10 : Int32) (x11 : Int32) (x12 : Int32) (x13 : Int32) (w : jW) (z : (Int32 × jW)), k28 x3 x4 x8 x9 x10 x11 x12 x13 w = some z → Ev l G (jrm d_Law_tricks 0 0) y_Law_tricks (some (.int z.1), (jRx 101), z.2) 0 0 0 0 28 [some (.ref 2), some (.ref 98), some (.ref 99), some (.int x3), some (.int x4), some (.ref 93), some (.ref 95), some (.ref 100), some (.int x8), some (.int x9), some (.int x10), some (.int x11), some (.int x12), some (.int x13), none, none, none, none] [] (jRx 101) w) (hk90 : ∀ (x3 : Int32) (x4 : Int32) (x8 : Int32) (x9 : Int32) (x10 : Int32) (x11 : Int32) (x12 : Int32) (x13 : Int32) (x14 : Int32) (x15 : Int32) (w : jW) (z : (Int32 × jW)), k90 x3 x4 x8 x9 x10 x11 x12 x13 x14 x15 w = some z → Ev l G (jrm d_Law_tricks 0 0) y_Law_tricks (some (.int z.1), (jRx 101), z.2) 0 0 0 0 90 [some (.ref 2), some (.ref 98), some (.ref 99), some (.int x3), some (.int x4), some (.ref 93), some (.ref 95), some (.ref 100), some (.int x8), some (.int x9), some (.int x10), some (.int x11), some (.int x12), some (.int x13), some (.int x14), some (.int x15), none, none] [] (jRx 101) w) (hk102 : ∀ (x3 : Int32) (x4 : Int32) (x8 : Int32) (x9 : Int32) (x10 : Int32) (x11 : Int32) (x12 : Int32) (x13 : Int32) (x14 : Int32) (x15 : Int32) (x16 : Int32) (x17 : Int32) (w : jW) (z : (Int32 × jW)), k102 x3 x4 x8 x9 x10 x11 x12 x13 x14 x15 x16 x17 w = some z → Ev l G (jrm d_Law_tricks 0 0) y_Law_tricks (some (.int z.1), (jRx 101), z.2) 0 0 0 0 102 [some (.ref 2), some (.ref 98), some (.ref 99), some (.int x3), some (.int x4), some (.ref 93), some (.ref 95), some (.ref 100), some (.int x8), some (.int x9), some (.int x10), some (.int x11), some (.int x12), some (.int x13), some (.int x14), some (.int x15), some (.int x16), some (.int x17)] [] (jRx 101) w) {x3 : Int32} {x4 : Int32} {x8 : Int32} {x9 : Int32} {x10 : Int32} {x11 : Int32} {x12 : Int32} {x13 : Int32} {x14 : Int32} {x15 : Int32} {x16 : Int32} {x17 : Int32} {s0 : Int32} {s1 : Int32} {w : jW} {z : (Int32 × jW)} (h : f_Law_tricks_j128 k6 k28 k90 k102 x3 x4 x8 x9 x10 x11 x12 x13 x14 x15 x16 x17 s0 s1 w = some z) : Ev l G (jrm d_Law_tricks 0 0) y_Law_tricks (some (.int z.1), (jRx 101), z.2) 0 0 0 0 128 [some (.ref 2), some (.ref 98), some (.ref 99), some (.int x3), some (.int x4), some (.ref 93), some (.ref 95), some (.ref 100), some (.int x8), some (.int x9), some (.int x10), some (.int x11), some (.int x12), some (.int x13), some (.int x14), some (.int x15), some (.int x16), some (.int x17)] [.int s0, .int s1] (jRx 101) w := by
  rw [f_Law_tricks_j128] at h
  refine ev_icmp_ne (off := 8) (tgt := 136) (by decide +kernel) (by decide) (fun c19 => ?_) (fun c19 => ?_)
  · replace h := jneg c19 h
    refine ev_seg (o := 10) (nL := 18) (q := 102) (xs := [(.iload 16, 2, 16, 0, .null), (.istore 16, 2, 16, 0, .null), (.iinc 17 1, 3, 17, 0, .int 1), (.goto (-41), 3, 0, 0, .null)]) (L' := [some (.ref 2), some (.ref 98), some (.ref 99), some (.int x3), some (.int x4), some (.ref 93), some (.ref 95), some (.ref 100), some (.int x8), some (.int x9), some (.int x10), some (.int x11), some (.int x12), some (.int x13), some (.int x14), some (.int x15), some (.int x16), some (.int (x17 + 1))]) (st' := []) (w' := w) (g := []) (K := []) (by decide +kernel) rfl rfl rfl rfl jk0 ?_
    refine ev_mask [true, true, true, true, true, true, true, true, true, true, true, true, true, true, true, true, true, true] ?_
    exact hk102 _ _ _ _ _ _ _ _ _ _ _ _ _ _ h
  · replace h := jpos c19 h
    refine ev_seg (o := 10) (nL := 18) (q := 102) (xs := [(.iload 17, 2, 17, 0, .null), (.goto 5, 3, 0, 0, .null), (.istore 16, 2, 16, 0, .null), (.iinc 17 1, 3, 17, 0, .int 1), (.goto (-41), 3, 0, 0, .null)]) (L' := [some (.ref 2), some (.ref 98), some (.ref 99), some (.int x3), some (.int x4), some (.ref 93), some (.ref 95), some (.ref 100), some (.int x8), some (.int x9), some (.int x10), some (.int x11), some (.int x12), some (.int x13), some (.int x14), some (.int x15), some (.int x17), some (.int (x17 + 1))]) (st' := []) (w' := w) (g := []) (K := []) (by decide +kernel) rfl rfl rfl rfl jk0 ?_
    refine ev_mask [true, true, true, true, true, true, true, true, true, true, true, true, true, true, true, true, true, true] ?_
    exact hk102 _ _ _ _ _ _ _ _ _ _ _ _ _ _ h
def f_Law_tricks_h102 (k6 : Int32 → Int32 → Int32 → Int32 → Int32 → Int32 → jW → Option (Int32 × jW)) (k28 : Int32 → Int32 → Int32 → Int32 → Int32 → Int32 → Int32 → Int32 → jW → Option (Int32 × jW)) (k90 : Int32 → Int32 → Int32 → Int32 → Int32 → Int32 → Int32 → Int32 → Int32 → Int32 → jW → Option (Int32 × jW)) : Nat → Int32 → Int32 → Int32 → Int32 → Int32 → Int32 → Int32 → Int32 → Int32 → Int32 → Int32 → Int32 → jW → Option (Int32 × jW)
  | 0, _, _, _, _, _, _, _, _, _, _, _, _, _ => none
  | n + 1, x3, x4, x8, x9, x10, x11, x12, x13, x14, x15, x16, x17, w =>
  if x17 < x8 then
    if jal [jin (2 * x17) 16] = true then
    if x15 = 0 then
      f_Law_tricks_j128 k6 k28 k90 (f_Law_tricks_h102 k6 k28 k90 n) x3 x4 x8 x9 x10 x11 x12 x13 x14 x15 x16 x17 x12 (w.1 100 (Int32.toNatClampNeg (2 * x17))) w
    else
      f_Law_tricks_j128 k6 k28 k90 (f_Law_tricks_h102 k6 k28 k90 n) x3 x4 x8 x9 x10 x11 x12 x13 x14 x15 x16 x17 x13 (w.1 100 (Int32.toNatClampNeg (2 * x17))) w
    else none
  else
    if x16 < 0 then
      k90 x3 x4 x8 x9 x10 x11 x12 x13 (x14 &&& 1) (x15 + 1) w
    else
      Option.bind (f_Law_whole x16 x3 x9 w) fun q15 =>
      if q15.1 = 0 then
        k90 x3 x4 x8 x9 x10 x11 x12 x13 (x14 &&& 1) (x15 + 1) q15.2
      else
        k90 x3 x4 x8 x9 x10 x11 x12 x13 (x14 &&& 0) (x15 + 1) q15.2
set_option maxRecDepth 20000 in
set_option maxHeartbeats 40000000 in
theorem t_Law_tricks_h102 {l : Launch} {G : jG} (hG : jX G) {k6 : Int32 → Int32 → Int32 → Int32 → Int32 → Int32 → jW → Option (Int32 × jW)} {k28 : Int32 → Int32 → Int32 → Int32 → Int32 → Int32 → Int32 → Int32 → jW → Option (Int32 × jW)} {k90 : Int32 → Int32 → Int32 → Int32 → Int32 → Int32 → Int32 → Int32 → Int32 → Int32 → jW → Option (Int32 × jW)} (hk6 : ∀ (x3 : Int32) (x4 : Int32) (x8 : Int32) (x9 : Int32) (x10 : Int32) (x11 : Int32) (w : jW) (z : (Int32 × jW)), k6 x3 x4 x8 x9 x10 x11 w = some z → Ev l G (jrm d_Law_tricks 0 0) y_Law_tricks (some (.int z.1), (jRx 101), z.2) 0 0 0 0 6 [some (.ref 2), some (.ref 98), some (.ref 99), some (.int x3), some (.int x4), some (.ref 93), some (.ref 95), some (.ref 100), some (.int x8), some (.int x9), some (.int x10), some (.int x11), none, none, none, none, none, none] [] (jRx 101) w) (hk28 : ∀ (x3 : Int32) (x4 : Int32) (x8 : Int32) (x9 : Int32) (x10 : Int32) (x11 : Int32) (x12 : Int32) (x13 : Int32) (w : jW) (z : (Int32 × jW)), k28 x3 x4 x8 x9 x10 x11 x12 x13 w = some z → Ev l G (jrm d_Law_tricks 0 0) y_Law_tricks (some (.int z.1), (jRx 101), z.2) 0 0 0 0 28 [some (.ref 2), some (.ref 98), some (.ref 99), some (.int x3), some (.int x4), some (.ref 93), some (.ref 95), some (.ref 100), some (.int x8), some (.int x9), some (.int x10), some (.int x11), some (.int x12), some (.int x13), none, none, none, none] [] (jRx 101) w) (hk90 : ∀ (x3 : Int32) (x4 : Int32) (x8 : Int32) (x9 : Int32) (x10 : Int32) (x11 : Int32) (x12 : Int32) (x13 : Int32) (x14 : Int32) (x15 : Int32) (w : jW) (z : (Int32 × jW)), k90 x3 x4 x8 x9 x10 x11 x12 x13 x14 x15 w = some z → Ev l G (jrm d_Law_tricks 0 0) y_Law_tricks (some (.int z.1), (jRx 101), z.2) 0 0 0 0 90 [some (.ref 2), some (.ref 98), some (.ref 99), some (.int x3), some (.int x4), some (.ref 93), some (.ref 95), some (.ref 100), some (.int x8), some (.int x9), some (.int x10), some (.int x11), some (.int x12), some (.int x13), some (.int x14), some (.int x15), none, none] [] (jRx 101) w) : ∀ (n : Nat) (x3 : Int32) (x4 : Int32) (x8 : Int32) (x9 : Int32) (x10 : Int32) (x11 : Int32) (x12 : Int32) (x13 : Int32) (x14 : Int32) (x15 : Int32) (x16 : Int32) (x17 : Int32) (w : jW) (z : (Int32 × jW)), f_Law_tricks_h102 k6 k28 k90 n x3 x4 x8 x9 x10 x11 x12 x13 x14 x15 x16 x17 w = some z → Ev l G (jrm d_Law_tricks 0 0) y_Law_tricks (some (.int z.1), (jRx 101), z.2) 0 0 0 0 102 [some (.ref 2), some (.ref 98), some (.ref 99), some (.int x3), some (.int x4), some (.ref 93), some (.ref 95), some (.ref 100), some (.int x8), some (.int x9), some (.int x10), some (.int x11), some (.int x12), some (.int x13), some (.int x14), some (.int x15), some (.int x16), some (.int x17)] [] (jRx 101) w := by
  intro n
  induction n with
  | zero => intro x3 x4 x8 x9 x10 x11 x12 x13 x14 x15 x16 x17 w z h; simp only [f_Law_tricks_h102] at h; cases h
  | succ n ih =>
    intro x3 x4 x8 x9 x10 x11 x12 x13 x14 x15 x16 x17 w z h
    rw [f_Law_tricks_h102] at h
    refine ev_seg (o := 10) (nL := 18) (q := 106) (xs := [(.iload 17, 2, 17, 0, .null), (.iload 8, 2, 8, 0, .null)]) (L' := [some (.ref 2), some (.ref 98), some (.ref 99), some (.int x3), some (.int x4), some (.ref 93), some (.ref 95), some (.ref 100), some (.int x8), some (.int x9), some (.int x10), some (.int x11), some (.int x12), some (.int x13), some (.int x14), some (.int x15), some (.int x16), some (.int x17)]) (st' := [.int x8, .int x17]) (w' := w) (g := []) (K := []) (by decide +kernel) rfl rfl rfl rfl jk0 ?_
    refine ev_icmp_ge (off := 40) (tgt := 146) (by decide +kernel) (by decide) (fun c21 => ?_) (fun c21 => ?_)
    · replace h := jneg c21 h
      refine ev_seg (o := 10) (nL := 18) (q := 150) (xs := [(.iload 14, 2, 14, 0, .null), (.iload 16, 2, 16, 0, .null)]) (L' := [some (.ref 2), some (.ref 98), some (.ref 99), some (.int x3), some (.int x4), some (.ref 93), some (.ref 95), some (.ref 100), some (.int x8), some (.int x9), some (.int x10), some (.int x11), some (.int x12), some (.int x13), some (.int x14), some (.int x15), some (.int x16), some (.int x17)]) (st' := [.int x16, .int x14]) (w' := w) (g := []) (K := []) (by decide +kernel) rfl rfl rfl rfl jk0 ?_
      refine ev_if_lt (off := 17) (tgt := 167) (by decide +kernel) (by decide) (fun c17 => ?_) (fun c17 => ?_)
      · replace h := jpos c17 h
        refine ev_seg (o := 10) (nL := 18) (q := 90) (xs := [(.iconst 1, 1, 0, 0, .int 1), (.goto 4, 3, 0, 0, .null), (.iand, 1, 0, 0, .null), (.istore 14, 2, 14, 0, .null), (.iinc 15 1, 3, 15, 0, .int 1), (.goto (-88), 3, 0, 0, .null)]) (L' := [some (.ref 2), some (.ref 98), some (.ref 99), some (.int x3), some (.int x4), some (.ref 93), some (.ref 95), some (.ref 100), some (.int x8), some (.int x9), some (.int x10), some (.int x11), some (.int x12), some (.int x13), some (.int (x14 &&& 1)), some (.int (x15 + 1)), some (.int x16), some (.int x17)]) (st' := []) (w' := w) (g := []) (K := []) (by decide +kernel) rfl rfl rfl rfl jk0 ?_
        refine ev_mask [true, true, true, true, true, true, true, true, true, true, true, true, true, true, true, true, false, false] ?_
        exact hk90 _ _ _ _ _ _ _ _ _ _ _ _ h
      · replace h := jneg c17 h
        refine ev_seg (o := 10) (nL := 18) (q := 161) (xs := [(.aload 7, 2, 7, 0, .null), (.iload 16, 2, 16, 0, .null), (.aload_n 2, 1, 2, 0, .null), (.iload_n 3, 1, 3, 0, .null), (.iload 9, 2, 9, 0, .null)]) (L' := [some (.ref 2), some (.ref 98), some (.ref 99), some (.int x3), some (.int x4), some (.ref 93), some (.ref 95), some (.ref 100), some (.int x8), some (.int x9), some (.int x10), some (.int x11), some (.int x12), some (.int x13), some (.int x14), some (.int x15), some (.int x16), some (.int x17)]) (st' := [.int x9, .int x3, .ref 99, .int x16, .ref 100, .int x14]) (w' := w) (g := []) (K := []) (by decide +kernel) rfl rfl rfl rfl jk0 ?_
        obtain ⟨q15, hq15, h⟩ := jbe h
        refine ev_callS (y2 := y_Law_whole) (o := 10) (idx := 59) (d2 := d_Law_whole) (n := 5) (mc2 := 0) (ms2 := 0) (As := [.ref 100, .int x16, .ref 99, .int x3, .int x9]) (st := [.int x14]) (res2 := (some (.int q15.1), (jRx 101), q15.2)) (by decide +kernel) rfl lk_10_59 mo_Law_whole ms_Law_whole ⟨Nat.le_of_ble_eq_true rfl, Nat.le_of_ble_eq_true rfl⟩ rfl rfl (Nat.le_of_ble_eq_true rfl) ⟨Nat.le_of_ble_eq_true rfl, Nat.le_of_ble_eq_true rfl⟩ hG (e_Law_whole hG hq15) ?_
        refine ev_if_ne (off := 7) (tgt := 171) (by decide +kernel) (by decide) (fun c16 => ?_) (fun c16 => ?_)
        · replace h := jneg c16 h
          refine ev_seg (o := 10) (nL := 18) (q := 90) (xs := [(.iconst 0, 1, 0, 0, .int 0), (.iand, 1, 0, 0, .null), (.istore 14, 2, 14, 0, .null), (.iinc 15 1, 3, 15, 0, .int 1), (.goto (-88), 3, 0, 0, .null)]) (L' := [some (.ref 2), some (.ref 98), some (.ref 99), some (.int x3), some (.int x4), some (.ref 93), some (.ref 95), some (.ref 100), some (.int x8), some (.int x9), some (.int x10), some (.int x11), some (.int x12), some (.int x13), some (.int (x14 &&& 0)), some (.int (x15 + 1)), some (.int x16), some (.int x17)]) (st' := []) (w' := q15.2) (g := []) (K := []) (by decide +kernel) rfl rfl rfl rfl jk0 ?_
          refine ev_mask [true, true, true, true, true, true, true, true, true, true, true, true, true, true, true, true, false, false] ?_
          exact hk90 _ _ _ _ _ _ _ _ _ _ _ _ h
        · replace h := jpos c16 h
          refine ev_seg (o := 10) (nL := 18) (q := 90) (xs := [(.iconst 1, 1, 0, 0, .int 1), (.goto 4, 3, 0, 0, .null), (.iand, 1, 0, 0, .null), (.istore 14, 2, 14, 0, .null), (.iinc 15 1, 3, 15, 0, .int 1), (.goto (-88), 3, 0, 0, .null)]) (L' := [some (.ref 2), some (.ref 98), some (.ref 99), some (.int x3), some (.int x4), some (.ref 93), some (.ref 95), some (.ref 100), some (.int x8), some (.int x9), some (.int x10), some (.int x11), some (.int x12), some (.int x13), some (.int (x14 &&& 1)), some (.int (x15 + 1)), some (.int x16), some (.int x17)]) (st' := []) (w' := q15.2) (g := []) (K := []) (by decide +kernel) rfl rfl rfl rfl jk0 ?_
          refine ev_mask [true, true, true, true, true, true, true, true, true, true, true, true, true, true, true, true, false, false] ?_
          exact hk90 _ _ _ _ _ _ _ _ _ _ _ _ h
    · replace h := jpos c21 h
      obtain ⟨hg18, h⟩ := jgd h
      refine ev_seg (o := 10) (nL := 18) (q := 118) (xs := [(.aload 7, 2, 7, 0, .null), (.iconst 2, 1, 0, 0, .int 2), (.iload 17, 2, 17, 0, .null), (.imul, 1, 0, 0, .null), (.iaload, 1, 0, 0, .null), (.iload 15, 2, 15, 0, .null)]) (L' := [some (.ref 2), some (.ref 98), some (.ref 99), some (.int x3), some (.int x4), some (.ref 93), some (.ref 95), some (.ref 100), some (.int x8), some (.int x9), some (.int x10), some (.int x11), some (.int x12), some (.int x13), some (.int x14), some (.int x15), some (.int x16), some (.int x17)]) (st' := [.int x15, .int (w.1 100 (Int32.toNatClampNeg (2 * x17)))]) (w' := w) (g := [jin (2 * x17) 16]) (K := [(100, 20)]) (by decide +kernel) rfl rfl rfl hg18 (jk1 (rfl) jk0) ?_
      refine ev_if_ne (off := 8) (tgt := 126) (by decide +kernel) (by decide) (fun c20 => ?_) (fun c20 => ?_)
      · replace h := jneg c20 h
        refine ev_seg (o := 10) (nL := 18) (q := 128) (xs := [(.iload 13, 2, 13, 0, .null)]) (L' := [some (.ref 2), some (.ref 98), some (.ref 99), some (.int x3), some (.int x4), some (.ref 93), some (.ref 95), some (.ref 100), some (.int x8), some (.int x9), some (.int x10), some (.int x11), some (.int x12), some (.int x13), some (.int x14), some (.int x15), some (.int x16), some (.int x17)]) (st' := [.int x13, .int (w.1 100 (Int32.toNatClampNeg (2 * x17)))]) (w' := w) (g := []) (K := []) (by decide +kernel) rfl rfl rfl rfl jk0 ?_
        refine ev_mask [true, true, true, true, true, true, true, true, true, true, true, true, true, true, true, true, true, true] ?_
        exact t_Law_tricks_j128 hG hk6 hk28 hk90 ih h
      · replace h := jpos c20 h
        refine ev_seg (o := 10) (nL := 18) (q := 128) (xs := [(.iload 12, 2, 12, 0, .null), (.goto 5, 3, 0, 0, .null)]) (L' := [some (.ref 2), some (.ref 98), some (.ref 99), some (.int x3), some (.int x4), some (.ref 93), some (.ref 95), some (.ref 100), some (.int x8), some (.int x9), some (.int x10), some (.int x11), some (.int x12), some (.int x13), some (.int x14), some (.int x15), some (.int x16), some (.int x17)]) (st' := [.int x12, .int (w.1 100 (Int32.toNatClampNeg (2 * x17)))]) (w' := w) (g := []) (K := []) (by decide +kernel) rfl rfl rfl rfl jk0 ?_
        refine ev_mask [true, true, true, true, true, true, true, true, true, true, true, true, true, true, true, true, true, true] ?_
        exact t_Law_tricks_j128 hG hk6 hk28 hk90 ih h
def f_Law_tricks_h90 (k6 : Int32 → Int32 → Int32 → Int32 → Int32 → Int32 → jW → Option (Int32 × jW)) (k28 : Int32 → Int32 → Int32 → Int32 → Int32 → Int32 → Int32 → Int32 → jW → Option (Int32 × jW)) : Nat → Int32 → Int32 → Int32 → Int32 → Int32 → Int32 → Int32 → Int32 → Int32 → Int32 → jW → Option (Int32 × jW)
  | 0, _, _, _, _, _, _, _, _, _, _, _ => none
  | n + 1, x3, x4, x8, x9, x10, x11, x12, x13, x14, x15, w =>
  if x15 < 2 then
    f_Law_tricks_h102 k6 k28 (f_Law_tricks_h90 k6 k28 n) jfu x3 x4 x8 x9 x10 x11 x12 x13 x14 x15 (-1) 0 w
  else
    if x14 = 0 then
      k28 x3 x4 x8 x9 x10 x11 x12 (x13 + 1) w
    else
      Option.bind (f_Count_trick 0 2 x10 0 w) fun q8 =>
      if q8.1 = x11 then
        Option.bind (f_Count_trick 0 2 x10 1 q8.2) fun q9 =>
        if q9.1 = x13 then
          Option.bind (f_Count_trick 0 2 (x10 + 1) 2 q9.2) fun q10 =>
          if q10.1 = (x9 + 1) then
            k28 x3 x4 x8 x9 (x10 + 2) x11 x12 (x13 + 1) q10.2
          else
            some (0, q10.2)
        else
          some (0, q9.2)
      else
        some (0, q8.2)
set_option maxRecDepth 20000 in
set_option maxHeartbeats 40000000 in
theorem t_Law_tricks_h90 {l : Launch} {G : jG} (hG : jX G) {k6 : Int32 → Int32 → Int32 → Int32 → Int32 → Int32 → jW → Option (Int32 × jW)} {k28 : Int32 → Int32 → Int32 → Int32 → Int32 → Int32 → Int32 → Int32 → jW → Option (Int32 × jW)} (hk6 : ∀ (x3 : Int32) (x4 : Int32) (x8 : Int32) (x9 : Int32) (x10 : Int32) (x11 : Int32) (w : jW) (z : (Int32 × jW)), k6 x3 x4 x8 x9 x10 x11 w = some z → Ev l G (jrm d_Law_tricks 0 0) y_Law_tricks (some (.int z.1), (jRx 101), z.2) 0 0 0 0 6 [some (.ref 2), some (.ref 98), some (.ref 99), some (.int x3), some (.int x4), some (.ref 93), some (.ref 95), some (.ref 100), some (.int x8), some (.int x9), some (.int x10), some (.int x11), none, none, none, none, none, none] [] (jRx 101) w) (hk28 : ∀ (x3 : Int32) (x4 : Int32) (x8 : Int32) (x9 : Int32) (x10 : Int32) (x11 : Int32) (x12 : Int32) (x13 : Int32) (w : jW) (z : (Int32 × jW)), k28 x3 x4 x8 x9 x10 x11 x12 x13 w = some z → Ev l G (jrm d_Law_tricks 0 0) y_Law_tricks (some (.int z.1), (jRx 101), z.2) 0 0 0 0 28 [some (.ref 2), some (.ref 98), some (.ref 99), some (.int x3), some (.int x4), some (.ref 93), some (.ref 95), some (.ref 100), some (.int x8), some (.int x9), some (.int x10), some (.int x11), some (.int x12), some (.int x13), none, none, none, none] [] (jRx 101) w) : ∀ (n : Nat) (x3 : Int32) (x4 : Int32) (x8 : Int32) (x9 : Int32) (x10 : Int32) (x11 : Int32) (x12 : Int32) (x13 : Int32) (x14 : Int32) (x15 : Int32) (w : jW) (z : (Int32 × jW)), f_Law_tricks_h90 k6 k28 n x3 x4 x8 x9 x10 x11 x12 x13 x14 x15 w = some z → Ev l G (jrm d_Law_tricks 0 0) y_Law_tricks (some (.int z.1), (jRx 101), z.2) 0 0 0 0 90 [some (.ref 2), some (.ref 98), some (.ref 99), some (.int x3), some (.int x4), some (.ref 93), some (.ref 95), some (.ref 100), some (.int x8), some (.int x9), some (.int x10), some (.int x11), some (.int x12), some (.int x13), some (.int x14), some (.int x15), none, none] [] (jRx 101) w := by
  intro n
  induction n with
  | zero => intro x3 x4 x8 x9 x10 x11 x12 x13 x14 x15 w z h; simp only [f_Law_tricks_h90] at h; cases h
  | succ n ih =>
    intro x3 x4 x8 x9 x10 x11 x12 x13 x14 x15 w z h
    rw [f_Law_tricks_h90] at h
    refine ev_seg (o := 10) (nL := 18) (q := 93) (xs := [(.iload 15, 2, 15, 0, .null), (.iconst 2, 1, 0, 0, .int 2)]) (L' := [some (.ref 2), some (.ref 98), some (.ref 99), some (.int x3), some (.int x4), some (.ref 93), some (.ref 95), some (.ref 100), some (.int x8), some (.int x9), some (.int x10), some (.int x11), some (.int x12), some (.int x13), some (.int x14), some (.int x15), none, none]) (st' := [.int 2, .int x15]) (w' := w) (g := []) (K := []) (by decide +kernel) rfl rfl rfl rfl jk0 ?_
    refine ev_icmp_ge (off := 88) (tgt := 181) (by decide +kernel) (by decide) (fun c22 => ?_) (fun c22 => ?_)
    · replace h := jneg c22 h
      refine ev_seg (o := 10) (nL := 18) (q := 183) (xs := [(.iload 14, 2, 14, 0, .null)]) (L' := [some (.ref 2), some (.ref 98), some (.ref 99), some (.int x3), some (.int x4), some (.ref 93), some (.ref 95), some (.ref 100), some (.int x8), some (.int x9), some (.int x10), some (.int x11), some (.int x12), some (.int x13), some (.int x14), some (.int x15), none, none]) (st' := [.int x14]) (w' := w) (g := []) (K := []) (by decide +kernel) rfl rfl rfl rfl jk0 ?_
      refine ev_if_ne (off := 6) (tgt := 189) (by decide +kernel) (by decide) (fun c14 => ?_) (fun c14 => ?_)
      · replace h := jneg c14 h
        refine ev_seg (o := 10) (nL := 18) (q := 195) (xs := [(.aload_n 0, 1, 0, 0, .null), (.iconst 0, 1, 0, 0, .int 0), (.iconst 2, 1, 0, 0, .int 2), (.iload 10, 2, 10, 0, .null), (.iconst 0, 1, 0, 0, .int 0)]) (L' := [some (.ref 2), some (.ref 98), some (.ref 99), some (.int x3), some (.int x4), some (.ref 93), some (.ref 95), some (.ref 100), some (.int x8), some (.int x9), some (.int x10), some (.int x11), some (.int x12), some (.int x13), some (.int x14), some (.int x15), none, none]) (st' := [.int 0, .int x10, .int 2, .int 0, .ref 2]) (w' := w) (g := []) (K := []) (by decide +kernel) rfl rfl rfl rfl jk0 ?_
        obtain ⟨q8, hq8, h⟩ := jbe h
        refine ev_callV (ci := 9) (a := 2) (y2 := y_Count_trick) (o := 10) (idx := 100) (d2 := d_Count_trick) (n := 4) (mc2 := 0) (ms2 := 0) (As := [.int 0, .int 2, .int x10, .int 0]) (st := []) (res2 := (some (.int q8.1), (jRx 101), q8.2)) (by decide +kernel) rfl lk_10_100 mo_Count_trick mv_Count_trick ⟨Nat.le_of_ble_eq_true rfl, Nat.le_of_ble_eq_true rfl⟩ rfl rfl (kz_2 (Nat.le_of_ble_eq_true rfl)) (by decide) rfl (Nat.le_of_ble_eq_true rfl) ⟨Nat.le_of_ble_eq_true rfl, Nat.le_of_ble_eq_true rfl⟩ hG (e_Count_trick hG (Nat.le_of_ble_eq_true rfl) hq8) ?_
        refine ev_seg (o := 10) (nL := 18) (q := 200) (xs := [(.iload 11, 2, 11, 0, .null)]) (L' := [some (.ref 2), some (.ref 98), some (.ref 99), some (.int x3), some (.int x4), some (.ref 93), some (.ref 95), some (.ref 100), some (.int x8), some (.int x9), some (.int x10), some (.int x11), some (.int x12), some (.int x13), some (.int x14), some (.int x15), none, none]) (st' := [.int x11, .int q8.1]) (w' := q8.2) (g := []) (K := []) (by decide +kernel) rfl rfl rfl rfl jk0 ?_
        refine ev_icmp_ne (off := 35) (tgt := 235) (by decide +kernel) (by decide) (fun c13 => ?_) (fun c13 => ?_)
        · replace h := jneg c13 h
          refine ev_seg (o := 10) (nL := 18) (q := 236) (xs := [(.iconst 0, 1, 0, 0, .int 0)]) (L' := [some (.ref 2), some (.ref 98), some (.ref 99), some (.int x3), some (.int x4), some (.ref 93), some (.ref 95), some (.ref 100), some (.int x8), some (.int x9), some (.int x10), some (.int x11), some (.int x12), some (.int x13), some (.int x14), some (.int x15), none, none]) (st' := [.int 0]) (w' := q8.2) (g := []) (K := []) (by decide +kernel) rfl rfl rfl rfl jk0 ?_
          cases h
          exact ev_zret (by decide +kernel) rfl rfl rfl rfl rfl
        · replace h := jpos c13 h
          refine ev_seg (o := 10) (nL := 18) (q := 209) (xs := [(.aload_n 0, 1, 0, 0, .null), (.iconst 0, 1, 0, 0, .int 0), (.iconst 2, 1, 0, 0, .int 2), (.iload 10, 2, 10, 0, .null), (.iconst 1, 1, 0, 0, .int 1)]) (L' := [some (.ref 2), some (.ref 98), some (.ref 99), some (.int x3), some (.int x4), some (.ref 93), some (.ref 95), some (.ref 100), some (.int x8), some (.int x9), some (.int x10), some (.int x11), some (.int x12), some (.int x13), some (.int x14), some (.int x15), none, none]) (st' := [.int 1, .int x10, .int 2, .int 0, .ref 2]) (w' := q8.2) (g := []) (K := []) (by decide +kernel) rfl rfl rfl rfl jk0 ?_
          obtain ⟨q9, hq9, h⟩ := jbe h
          refine ev_callV (ci := 9) (a := 2) (y2 := y_Count_trick) (o := 10) (idx := 100) (d2 := d_Count_trick) (n := 4) (mc2 := 0) (ms2 := 0) (As := [.int 0, .int 2, .int x10, .int 1]) (st := []) (res2 := (some (.int q9.1), (jRx 101), q9.2)) (by decide +kernel) rfl lk_10_100 mo_Count_trick mv_Count_trick ⟨Nat.le_of_ble_eq_true rfl, Nat.le_of_ble_eq_true rfl⟩ rfl rfl (kz_2 (Nat.le_of_ble_eq_true rfl)) (by decide) rfl (Nat.le_of_ble_eq_true rfl) ⟨Nat.le_of_ble_eq_true rfl, Nat.le_of_ble_eq_true rfl⟩ hG (e_Count_trick hG (Nat.le_of_ble_eq_true rfl) hq9) ?_
          refine ev_seg (o := 10) (nL := 18) (q := 214) (xs := [(.iload 13, 2, 13, 0, .null)]) (L' := [some (.ref 2), some (.ref 98), some (.ref 99), some (.int x3), some (.int x4), some (.ref 93), some (.ref 95), some (.ref 100), some (.int x8), some (.int x9), some (.int x10), some (.int x11), some (.int x12), some (.int x13), some (.int x14), some (.int x15), none, none]) (st' := [.int x13, .int q9.1]) (w' := q9.2) (g := []) (K := []) (by decide +kernel) rfl rfl rfl rfl jk0 ?_
          refine ev_icmp_ne (off := 21) (tgt := 235) (by decide +kernel) (by decide) (fun c12 => ?_) (fun c12 => ?_)
          · replace h := jneg c12 h
            refine ev_seg (o := 10) (nL := 18) (q := 236) (xs := [(.iconst 0, 1, 0, 0, .int 0)]) (L' := [some (.ref 2), some (.ref 98), some (.ref 99), some (.int x3), some (.int x4), some (.ref 93), some (.ref 95), some (.ref 100), some (.int x8), some (.int x9), some (.int x10), some (.int x11), some (.int x12), some (.int x13), some (.int x14), some (.int x15), none, none]) (st' := [.int 0]) (w' := q9.2) (g := []) (K := []) (by decide +kernel) rfl rfl rfl rfl jk0 ?_
            cases h
            exact ev_zret (by decide +kernel) rfl rfl rfl rfl rfl
          · replace h := jpos c12 h
            refine ev_seg (o := 10) (nL := 18) (q := 225) (xs := [(.aload_n 0, 1, 0, 0, .null), (.iconst 0, 1, 0, 0, .int 0), (.iconst 2, 1, 0, 0, .int 2), (.iload 10, 2, 10, 0, .null), (.iconst 1, 1, 0, 0, .int 1), (.iadd, 1, 0, 0, .null), (.iconst 2, 1, 0, 0, .int 2)]) (L' := [some (.ref 2), some (.ref 98), some (.ref 99), some (.int x3), some (.int x4), some (.ref 93), some (.ref 95), some (.ref 100), some (.int x8), some (.int x9), some (.int x10), some (.int x11), some (.int x12), some (.int x13), some (.int x14), some (.int x15), none, none]) (st' := [.int 2, .int (x10 + 1), .int 2, .int 0, .ref 2]) (w' := q9.2) (g := []) (K := []) (by decide +kernel) rfl rfl rfl rfl jk0 ?_
            obtain ⟨q10, hq10, h⟩ := jbe h
            refine ev_callV (ci := 9) (a := 2) (y2 := y_Count_trick) (o := 10) (idx := 100) (d2 := d_Count_trick) (n := 4) (mc2 := 0) (ms2 := 0) (As := [.int 0, .int 2, .int (x10 + 1), .int 2]) (st := []) (res2 := (some (.int q10.1), (jRx 101), q10.2)) (by decide +kernel) rfl lk_10_100 mo_Count_trick mv_Count_trick ⟨Nat.le_of_ble_eq_true rfl, Nat.le_of_ble_eq_true rfl⟩ rfl rfl (kz_2 (Nat.le_of_ble_eq_true rfl)) (by decide) rfl (Nat.le_of_ble_eq_true rfl) ⟨Nat.le_of_ble_eq_true rfl, Nat.le_of_ble_eq_true rfl⟩ hG (e_Count_trick hG (Nat.le_of_ble_eq_true rfl) hq10) ?_
            refine ev_seg (o := 10) (nL := 18) (q := 232) (xs := [(.iload 9, 2, 9, 0, .null), (.iconst 1, 1, 0, 0, .int 1), (.iadd, 1, 0, 0, .null)]) (L' := [some (.ref 2), some (.ref 98), some (.ref 99), some (.int x3), some (.int x4), some (.ref 93), some (.ref 95), some (.ref 100), some (.int x8), some (.int x9), some (.int x10), some (.int x11), some (.int x12), some (.int x13), some (.int x14), some (.int x15), none, none]) (st' := [.int (x9 + 1), .int q10.1]) (w' := q10.2) (g := []) (K := []) (by decide +kernel) rfl rfl rfl rfl jk0 ?_
            refine ev_icmp_eq (off := 5) (tgt := 237) (by decide +kernel) (by decide) (fun c11 => ?_) (fun c11 => ?_)
            · replace h := jpos c11 h
              refine ev_seg (o := 10) (nL := 18) (q := 28) (xs := [(.iinc 10 2, 3, 10, 0, .int 2), (.iinc 13 1, 3, 13, 0, .int 1), (.goto (-215), 3, 0, 0, .null)]) (L' := [some (.ref 2), some (.ref 98), some (.ref 99), some (.int x3), some (.int x4), some (.ref 93), some (.ref 95), some (.ref 100), some (.int x8), some (.int x9), some (.int (x10 + 2)), some (.int x11), some (.int x12), some (.int (x13 + 1)), some (.int x14), some (.int x15), none, none]) (st' := []) (w' := q10.2) (g := []) (K := []) (by decide +kernel) rfl rfl rfl rfl jk0 ?_
              refine ev_mask [true, true, true, true, true, true, true, true, true, true, true, true, true, true, false, false, false, false] ?_
              exact hk28 _ _ _ _ _ _ _ _ _ _ h
            · replace h := jneg c11 h
              refine ev_seg (o := 10) (nL := 18) (q := 236) (xs := [(.iconst 0, 1, 0, 0, .int 0)]) (L' := [some (.ref 2), some (.ref 98), some (.ref 99), some (.int x3), some (.int x4), some (.ref 93), some (.ref 95), some (.ref 100), some (.int x8), some (.int x9), some (.int x10), some (.int x11), some (.int x12), some (.int x13), some (.int x14), some (.int x15), none, none]) (st' := [.int 0]) (w' := q10.2) (g := []) (K := []) (by decide +kernel) rfl rfl rfl rfl jk0 ?_
              cases h
              exact ev_zret (by decide +kernel) rfl rfl rfl rfl rfl
      · replace h := jpos c14 h
        refine ev_seg (o := 10) (nL := 18) (q := 28) (xs := [(.goto 54, 3, 0, 0, .null), (.iinc 13 1, 3, 13, 0, .int 1), (.goto (-215), 3, 0, 0, .null)]) (L' := [some (.ref 2), some (.ref 98), some (.ref 99), some (.int x3), some (.int x4), some (.ref 93), some (.ref 95), some (.ref 100), some (.int x8), some (.int x9), some (.int x10), some (.int x11), some (.int x12), some (.int (x13 + 1)), some (.int x14), some (.int x15), none, none]) (st' := []) (w' := w) (g := []) (K := []) (by decide +kernel) rfl rfl rfl rfl jk0 ?_
        refine ev_mask [true, true, true, true, true, true, true, true, true, true, true, true, true, true, false, false, false, false] ?_
        exact hk28 _ _ _ _ _ _ _ _ _ _ h
    · replace h := jpos c22 h
      refine ev_seg (o := 10) (nL := 18) (q := 102) (xs := [(.iconst (-1), 1, 0, 0, .int (-1)), (.istore 16, 2, 16, 0, .null), (.iconst 0, 1, 0, 0, .int 0), (.istore 17, 2, 17, 0, .null)]) (L' := [some (.ref 2), some (.ref 98), some (.ref 99), some (.int x3), some (.int x4), some (.ref 93), some (.ref 95), some (.ref 100), some (.int x8), some (.int x9), some (.int x10), some (.int x11), some (.int x12), some (.int x13), some (.int x14), some (.int x15), some (.int (-1)), some (.int 0)]) (st' := []) (w' := w) (g := []) (K := []) (by decide +kernel) rfl rfl rfl rfl jk0 ?_
      refine ev_mask [true, true, true, true, true, true, true, true, true, true, true, true, true, true, true, true, true, true] ?_
      exact t_Law_tricks_h102 hG hk6 hk28 ih jfu _ _ _ _ _ _ _ _ _ _ _ _ _ _ h
def f_Law_tricks_j85 (k6 : Int32 → Int32 → Int32 → Int32 → Int32 → Int32 → jW → Option (Int32 × jW)) (k28 : Int32 → Int32 → Int32 → Int32 → Int32 → Int32 → Int32 → Int32 → jW → Option (Int32 × jW)) (x3 : Int32) (x4 : Int32) (x8 : Int32) (x9 : Int32) (x10 : Int32) (x11 : Int32) (x12 : Int32) (x13 : Int32) (s0 : Int32) (w : jW) : Option (Int32 × jW) :=
  f_Law_tricks_h90 k6 k28 jfu x3 x4 x8 x9 x10 x11 x12 x13 s0 0 w
set_option maxRecDepth 20000 in
set_option maxHeartbeats 40000000 in
theorem t_Law_tricks_j85 {l : Launch} {G : jG} (hG : jX G) {k6 : Int32 → Int32 → Int32 → Int32 → Int32 → Int32 → jW → Option (Int32 × jW)} {k28 : Int32 → Int32 → Int32 → Int32 → Int32 → Int32 → Int32 → Int32 → jW → Option (Int32 × jW)} (hk6 : ∀ (x3 : Int32) (x4 : Int32) (x8 : Int32) (x9 : Int32) (x10 : Int32) (x11 : Int32) (w : jW) (z : (Int32 × jW)), k6 x3 x4 x8 x9 x10 x11 w = some z → Ev l G (jrm d_Law_tricks 0 0) y_Law_tricks (some (.int z.1), (jRx 101), z.2) 0 0 0 0 6 [some (.ref 2), some (.ref 98), some (.ref 99), some (.int x3), some (.int x4), some (.ref 93), some (.ref 95), some (.ref 100), some (.int x8), some (.int x9), some (.int x10), some (.int x11), none, none, none, none, none, none] [] (jRx 101) w) (hk28 : ∀ (x3 : Int32) (x4 : Int32) (x8 : Int32) (x9 : Int32) (x10 : Int32) (x11 : Int32) (x12 : Int32) (x13 : Int32) (w : jW) (z : (Int32 × jW)), k28 x3 x4 x8 x9 x10 x11 x12 x13 w = some z → Ev l G (jrm d_Law_tricks 0 0) y_Law_tricks (some (.int z.1), (jRx 101), z.2) 0 0 0 0 28 [some (.ref 2), some (.ref 98), some (.ref 99), some (.int x3), some (.int x4), some (.ref 93), some (.ref 95), some (.ref 100), some (.int x8), some (.int x9), some (.int x10), some (.int x11), some (.int x12), some (.int x13), none, none, none, none] [] (jRx 101) w) {x3 : Int32} {x4 : Int32} {x8 : Int32} {x9 : Int32} {x10 : Int32} {x11 : Int32} {x12 : Int32} {x13 : Int32} {s0 : Int32} {w : jW} {z : (Int32 × jW)} (h : f_Law_tricks_j85 k6 k28 x3 x4 x8 x9 x10 x11 x12 x13 s0 w = some z) : Ev l G (jrm d_Law_tricks 0 0) y_Law_tricks (some (.int z.1), (jRx 101), z.2) 0 0 0 0 85 [some (.ref 2), some (.ref 98), some (.ref 99), some (.int x3), some (.int x4), some (.ref 93), some (.ref 95), some (.ref 100), some (.int x8), some (.int x9), some (.int x10), some (.int x11), some (.int x12), some (.int x13), none, none, none, none] [.int s0] (jRx 101) w := by
  rw [f_Law_tricks_j85] at h
  refine ev_seg (o := 10) (nL := 18) (q := 90) (xs := [(.istore 14, 2, 14, 0, .null), (.iconst 0, 1, 0, 0, .int 0), (.istore 15, 2, 15, 0, .null)]) (L' := [some (.ref 2), some (.ref 98), some (.ref 99), some (.int x3), some (.int x4), some (.ref 93), some (.ref 95), some (.ref 100), some (.int x8), some (.int x9), some (.int x10), some (.int x11), some (.int x12), some (.int x13), some (.int s0), some (.int 0), none, none]) (st' := []) (w' := w) (g := []) (K := []) (by decide +kernel) rfl rfl rfl rfl jk0 ?_
  refine ev_mask [true, true, true, true, true, true, true, true, true, true, true, true, true, true, true, true, false, false] ?_
  exact t_Law_tricks_h90 hG hk6 hk28 jfu _ _ _ _ _ _ _ _ _ _ _ _ h
def f_Law_tricks_j84 (k6 : Int32 → Int32 → Int32 → Int32 → Int32 → Int32 → jW → Option (Int32 × jW)) (k28 : Int32 → Int32 → Int32 → Int32 → Int32 → Int32 → Int32 → Int32 → jW → Option (Int32 × jW)) (x3 : Int32) (x4 : Int32) (x8 : Int32) (x9 : Int32) (x10 : Int32) (x11 : Int32) (x12 : Int32) (x13 : Int32) (w : jW) : Option (Int32 × jW) :=
  f_Law_tricks_j85 k6 k28 x3 x4 x8 x9 x10 x11 x12 x13 0 w
set_option maxRecDepth 20000 in
set_option maxHeartbeats 40000000 in
theorem t_Law_tricks_j84 {l : Launch} {G : jG} (hG : jX G) {k6 : Int32 → Int32 → Int32 → Int32 → Int32 → Int32 → jW → Option (Int32 × jW)} {k28 : Int32 → Int32 → Int32 → Int32 → Int32 → Int32 → Int32 → Int32 → jW → Option (Int32 × jW)} (hk6 : ∀ (x3 : Int32) (x4 : Int32) (x8 : Int32) (x9 : Int32) (x10 : Int32) (x11 : Int32) (w : jW) (z : (Int32 × jW)), k6 x3 x4 x8 x9 x10 x11 w = some z → Ev l G (jrm d_Law_tricks 0 0) y_Law_tricks (some (.int z.1), (jRx 101), z.2) 0 0 0 0 6 [some (.ref 2), some (.ref 98), some (.ref 99), some (.int x3), some (.int x4), some (.ref 93), some (.ref 95), some (.ref 100), some (.int x8), some (.int x9), some (.int x10), some (.int x11), none, none, none, none, none, none] [] (jRx 101) w) (hk28 : ∀ (x3 : Int32) (x4 : Int32) (x8 : Int32) (x9 : Int32) (x10 : Int32) (x11 : Int32) (x12 : Int32) (x13 : Int32) (w : jW) (z : (Int32 × jW)), k28 x3 x4 x8 x9 x10 x11 x12 x13 w = some z → Ev l G (jrm d_Law_tricks 0 0) y_Law_tricks (some (.int z.1), (jRx 101), z.2) 0 0 0 0 28 [some (.ref 2), some (.ref 98), some (.ref 99), some (.int x3), some (.int x4), some (.ref 93), some (.ref 95), some (.ref 100), some (.int x8), some (.int x9), some (.int x10), some (.int x11), some (.int x12), some (.int x13), none, none, none, none] [] (jRx 101) w) {x3 : Int32} {x4 : Int32} {x8 : Int32} {x9 : Int32} {x10 : Int32} {x11 : Int32} {x12 : Int32} {x13 : Int32} {w : jW} {z : (Int32 × jW)} (h : f_Law_tricks_j84 k6 k28 x3 x4 x8 x9 x10 x11 x12 x13 w = some z) : Ev l G (jrm d_Law_tricks 0 0) y_Law_tricks (some (.int z.1), (jRx 101), z.2) 0 0 0 0 84 [some (.ref 2), some (.ref 98), some (.ref 99), some (.int x3), some (.int x4), some (.ref 93), some (.ref 95), some (.ref 100), some (.int x8), some (.int x9), some (.int x10), some (.int x11), some (.int x12), some (.int x13), none, none, none, none] [] (jRx 101) w := by
  rw [f_Law_tricks_j84] at h
  refine ev_seg (o := 10) (nL := 18) (q := 85) (xs := [(.iconst 0, 1, 0, 0, .int 0)]) (L' := [some (.ref 2), some (.ref 98), some (.ref 99), some (.int x3), some (.int x4), some (.ref 93), some (.ref 95), some (.ref 100), some (.int x8), some (.int x9), some (.int x10), some (.int x11), some (.int x12), some (.int x13), none, none, none, none]) (st' := [.int 0]) (w' := w) (g := []) (K := []) (by decide +kernel) rfl rfl rfl rfl jk0 ?_
  refine ev_mask [true, true, true, true, true, true, true, true, true, true, true, true, true, true, false, false, false, false] ?_
  exact t_Law_tricks_j85 hG hk6 hk28 h
def f_Law_tricks_h28 (k6 : Int32 → Int32 → Int32 → Int32 → Int32 → Int32 → jW → Option (Int32 × jW)) : Nat → Int32 → Int32 → Int32 → Int32 → Int32 → Int32 → Int32 → Int32 → jW → Option (Int32 × jW)
  | 0, _, _, _, _, _, _, _, _, _ => none
  | n + 1, x3, x4, x8, x9, x10, x11, x12, x13, w =>
  if x13 < 5 then
    if x12 < 100 then
      if x13 = x12 then
        f_Law_tricks_j84 k6 (f_Law_tricks_h28 k6 n) x3 x4 x8 x9 x10 x11 x12 x13 w
      else
        if jal [jin ((5 * x12) + x13) 25] = true then
        if (w.1 95 (Int32.toNatClampNeg ((5 * x12) + x13))) < 900 then
          if jal [jin x12 5] = true then
          if (w.1 93 (Int32.toNatClampNeg x12)) = 0 then
            if jal [jin x13 5] = true then
            if (w.1 93 (Int32.toNatClampNeg x13)) = 0 then
              f_Law_tricks_j85 k6 (f_Law_tricks_h28 k6 n) x3 x4 x8 x9 x10 x11 x12 x13 1 w
            else
              f_Law_tricks_j84 k6 (f_Law_tricks_h28 k6 n) x3 x4 x8 x9 x10 x11 x12 x13 w
            else none
          else
            f_Law_tricks_j84 k6 (f_Law_tricks_h28 k6 n) x3 x4 x8 x9 x10 x11 x12 x13 w
          else none
        else
          f_Law_tricks_j84 k6 (f_Law_tricks_h28 k6 n) x3 x4 x8 x9 x10 x11 x12 x13 w
        else none
    else
      k6 x3 x4 x8 x9 x10 (x11 + 1) w
  else
    k6 x3 x4 x8 x9 x10 (x11 + 1) w
set_option maxRecDepth 20000 in
set_option maxHeartbeats 40000000 in
theorem t_Law_tricks_h28 {l : Launch} {G : jG} (hG : jX G) {k6 : Int32 → Int32 → Int32 → Int32 → Int32 → Int32 → jW → Option (Int32 × jW)} (hk6 : ∀ (x3 : Int32) (x4 : Int32) (x8 : Int32) (x9 : Int32) (x10 : Int32) (x11 : Int32) (w : jW) (z : (Int32 × jW)), k6 x3 x4 x8 x9 x10 x11 w = some z → Ev l G (jrm d_Law_tricks 0 0) y_Law_tricks (some (.int z.1), (jRx 101), z.2) 0 0 0 0 6 [some (.ref 2), some (.ref 98), some (.ref 99), some (.int x3), some (.int x4), some (.ref 93), some (.ref 95), some (.ref 100), some (.int x8), some (.int x9), some (.int x10), some (.int x11), none, none, none, none, none, none] [] (jRx 101) w) : ∀ (n : Nat) (x3 : Int32) (x4 : Int32) (x8 : Int32) (x9 : Int32) (x10 : Int32) (x11 : Int32) (x12 : Int32) (x13 : Int32) (w : jW) (z : (Int32 × jW)), f_Law_tricks_h28 k6 n x3 x4 x8 x9 x10 x11 x12 x13 w = some z → Ev l G (jrm d_Law_tricks 0 0) y_Law_tricks (some (.int z.1), (jRx 101), z.2) 0 0 0 0 28 [some (.ref 2), some (.ref 98), some (.ref 99), some (.int x3), some (.int x4), some (.ref 93), some (.ref 95), some (.ref 100), some (.int x8), some (.int x9), some (.int x10), some (.int x11), some (.int x12), some (.int x13), none, none, none, none] [] (jRx 101) w := by
  intro n
  induction n with
  | zero => intro x3 x4 x8 x9 x10 x11 x12 x13 w z h; simp only [f_Law_tricks_h28] at h; cases h
  | succ n ih =>
    intro x3 x4 x8 x9 x10 x11 x12 x13 w z h
    rw [f_Law_tricks_h28] at h
    refine ev_seg (o := 10) (nL := 18) (q := 31) (xs := [(.iload 13, 2, 13, 0, .null), (.iconst 5, 1, 0, 0, .int 5)]) (L' := [some (.ref 2), some (.ref 98), some (.ref 99), some (.int x3), some (.int x4), some (.ref 93), some (.ref 95), some (.ref 100), some (.int x8), some (.int x9), some (.int x10), some (.int x11), some (.int x12), some (.int x13), none, none, none, none]) (st' := [.int 5, .int x13]) (w' := w) (g := []) (K := []) (by decide +kernel) rfl rfl rfl rfl jk0 ?_
    refine ev_icmp_ge (off := 215) (tgt := 246) (by decide +kernel) (by decide) (fun c31 => ?_) (fun c31 => ?_)
    · replace h := jneg c31 h
      refine ev_seg (o := 10) (nL := 18) (q := 6) (xs := [(.iinc 11 1, 3, 11, 0, .int 1), (.goto (-243), 3, 0, 0, .null)]) (L' := [some (.ref 2), some (.ref 98), some (.ref 99), some (.int x3), some (.int x4), some (.ref 93), some (.ref 95), some (.ref 100), some (.int x8), some (.int x9), some (.int x10), some (.int (x11 + 1)), some (.int x12), some (.int x13), none, none, none, none]) (st' := []) (w' := w) (g := []) (K := []) (by decide +kernel) rfl rfl rfl rfl jk0 ?_
      refine ev_mask [true, true, true, true, true, true, true, true, true, true, true, true, false, false, false, false, false, false] ?_
      exact hk6 _ _ _ _ _ _ _ _ h
    · replace h := jpos c31 h
      refine ev_seg (o := 10) (nL := 18) (q := 38) (xs := [(.iload 12, 2, 12, 0, .null), (.bipush 100, 2, 0, 0, .int 100)]) (L' := [some (.ref 2), some (.ref 98), some (.ref 99), some (.int x3), some (.int x4), some (.ref 93), some (.ref 95), some (.ref 100), some (.int x8), some (.int x9), some (.int x10), some (.int x11), some (.int x12), some (.int x13), none, none, none, none]) (st' := [.int 100, .int x12]) (w' := w) (g := []) (K := []) (by decide +kernel) rfl rfl rfl rfl jk0 ?_
      refine ev_icmp_ge (off := 208) (tgt := 246) (by decide +kernel) (by decide) (fun c30 => ?_) (fun c30 => ?_)
      · replace h := jneg c30 h
        refine ev_seg (o := 10) (nL := 18) (q := 6) (xs := [(.iinc 11 1, 3, 11, 0, .int 1), (.goto (-243), 3, 0, 0, .null)]) (L' := [some (.ref 2), some (.ref 98), some (.ref 99), some (.int x3), some (.int x4), some (.ref 93), some (.ref 95), some (.ref 100), some (.int x8), some (.int x9), some (.int x10), some (.int (x11 + 1)), some (.int x12), some (.int x13), none, none, none, none]) (st' := []) (w' := w) (g := []) (K := []) (by decide +kernel) rfl rfl rfl rfl jk0 ?_
        refine ev_mask [true, true, true, true, true, true, true, true, true, true, true, true, false, false, false, false, false, false] ?_
        exact hk6 _ _ _ _ _ _ _ _ h
      · replace h := jpos c30 h
        refine ev_seg (o := 10) (nL := 18) (q := 45) (xs := [(.iload 13, 2, 13, 0, .null), (.iload 12, 2, 12, 0, .null)]) (L' := [some (.ref 2), some (.ref 98), some (.ref 99), some (.int x3), some (.int x4), some (.ref 93), some (.ref 95), some (.ref 100), some (.int x8), some (.int x9), some (.int x10), some (.int x11), some (.int x12), some (.int x13), none, none, none, none]) (st' := [.int x12, .int x13]) (w' := w) (g := []) (K := []) (by decide +kernel) rfl rfl rfl rfl jk0 ?_
        refine ev_icmp_eq (off := 39) (tgt := 84) (by decide +kernel) (by decide) (fun c29 => ?_) (fun c29 => ?_)
        · replace h := jpos c29 h
          refine ev_mask [true, true, true, true, true, true, true, true, true, true, true, true, true, true, false, false, false, false] ?_
          exact t_Law_tricks_j84 hG hk6 ih h
        · replace h := jneg c29 h
          obtain ⟨hg23, h⟩ := jgd h
          refine ev_seg (o := 10) (nL := 18) (q := 61) (xs := [(.aload 6, 2, 6, 0, .null), (.iconst 5, 1, 0, 0, .int 5), (.iload 12, 2, 12, 0, .null), (.imul, 1, 0, 0, .null), (.iload 13, 2, 13, 0, .null), (.iadd, 1, 0, 0, .null), (.iaload, 1, 0, 0, .null), (.sipush 900, 3, 0, 0, .int 900)]) (L' := [some (.ref 2), some (.ref 98), some (.ref 99), some (.int x3), some (.int x4), some (.ref 93), some (.ref 95), some (.ref 100), some (.int x8), some (.int x9), some (.int x10), some (.int x11), some (.int x12), some (.int x13), none, none, none, none]) (st' := [.int 900, .int (w.1 95 (Int32.toNatClampNeg ((5 * x12) + x13)))]) (w' := w) (g := [jin ((5 * x12) + x13) 25]) (K := [(95, 20)]) (by decide +kernel) rfl rfl rfl hg23 (jk1 (rfl) jk0) ?_
          refine ev_icmp_ge (off := 23) (tgt := 84) (by decide +kernel) (by decide) (fun c28 => ?_) (fun c28 => ?_)
          · replace h := jneg c28 h
            refine ev_mask [true, true, true, true, true, true, true, true, true, true, true, true, true, true, false, false, false, false] ?_
            exact t_Law_tricks_j84 hG hk6 ih h
          · replace h := jpos c28 h
            obtain ⟨hg24, h⟩ := jgd h
            refine ev_seg (o := 10) (nL := 18) (q := 69) (xs := [(.aload 5, 2, 5, 0, .null), (.iload 12, 2, 12, 0, .null), (.baload, 1, 0, 0, .null)]) (L' := [some (.ref 2), some (.ref 98), some (.ref 99), some (.int x3), some (.int x4), some (.ref 93), some (.ref 95), some (.ref 100), some (.int x8), some (.int x9), some (.int x10), some (.int x11), some (.int x12), some (.int x13), none, none, none, none]) (st' := [.int (w.1 93 (Int32.toNatClampNeg x12))]) (w' := w) (g := [jin x12 5]) (K := [(93, 21)]) (by decide +kernel) rfl rfl rfl hg24 (jk1 (rfl) jk0) ?_
            refine ev_if_ne (off := 15) (tgt := 84) (by decide +kernel) (by decide) (fun c27 => ?_) (fun c27 => ?_)
            · replace h := jneg c27 h
              refine ev_mask [true, true, true, true, true, true, true, true, true, true, true, true, true, true, false, false, false, false] ?_
              exact t_Law_tricks_j84 hG hk6 ih h
            · replace h := jpos c27 h
              obtain ⟨hg25, h⟩ := jgd h
              refine ev_seg (o := 10) (nL := 18) (q := 77) (xs := [(.aload 5, 2, 5, 0, .null), (.iload 13, 2, 13, 0, .null), (.baload, 1, 0, 0, .null)]) (L' := [some (.ref 2), some (.ref 98), some (.ref 99), some (.int x3), some (.int x4), some (.ref 93), some (.ref 95), some (.ref 100), some (.int x8), some (.int x9), some (.int x10), some (.int x11), some (.int x12), some (.int x13), none, none, none, none]) (st' := [.int (w.1 93 (Int32.toNatClampNeg x13))]) (w' := w) (g := [jin x13 5]) (K := [(93, 21)]) (by decide +kernel) rfl rfl rfl hg25 (jk1 (rfl) jk0) ?_
              refine ev_if_ne (off := 7) (tgt := 84) (by decide +kernel) (by decide) (fun c26 => ?_) (fun c26 => ?_)
              · replace h := jneg c26 h
                refine ev_mask [true, true, true, true, true, true, true, true, true, true, true, true, true, true, false, false, false, false] ?_
                exact t_Law_tricks_j84 hG hk6 ih h
              · replace h := jpos c26 h
                refine ev_seg (o := 10) (nL := 18) (q := 85) (xs := [(.iconst 1, 1, 0, 0, .int 1), (.goto 4, 3, 0, 0, .null)]) (L' := [some (.ref 2), some (.ref 98), some (.ref 99), some (.int x3), some (.int x4), some (.ref 93), some (.ref 95), some (.ref 100), some (.int x8), some (.int x9), some (.int x10), some (.int x11), some (.int x12), some (.int x13), none, none, none, none]) (st' := [.int 1]) (w' := w) (g := []) (K := []) (by decide +kernel) rfl rfl rfl rfl jk0 ?_
                refine ev_mask [true, true, true, true, true, true, true, true, true, true, true, true, true, true, false, false, false, false] ?_
                exact t_Law_tricks_j85 hG hk6 ih h
def f_Law_tricks_h6 : Nat → Int32 → Int32 → Int32 → Int32 → Int32 → Int32 → jW → Option (Int32 × jW)
  | 0, _, _, _, _, _, _, _ => none
  | n + 1, x3, x4, x8, x9, x10, x11, w =>
  if x11 < x4 then
    Option.bind (f_Law_where x3 x11 x9 w) fun q7 =>
    f_Law_tricks_h28 (f_Law_tricks_h6 n) jfu x3 x4 x8 x9 x10 x11 q7.1 0 q7.2
  else
    Option.bind (f_Count_unseen 0 2 w) fun q1 =>
    if q1.1 = x10 then
      Option.bind (f_Count_trick 0 2 x10 0 q1.2) fun q2 =>
      if q2.1 = (-1) then
        Option.bind (f_Count_unseen 1 2 q2.2) fun q3 =>
        if q3.1 = 0 then
          some (1, q3.2)
        else
          some (0, q3.2)
      else
        some (0, q2.2)
    else
      some (0, q1.2)
set_option maxRecDepth 20000 in
set_option maxHeartbeats 40000000 in
theorem t_Law_tricks_h6 {l : Launch} {G : jG} (hG : jX G) : ∀ (n : Nat) (x3 : Int32) (x4 : Int32) (x8 : Int32) (x9 : Int32) (x10 : Int32) (x11 : Int32) (w : jW) (z : (Int32 × jW)), f_Law_tricks_h6 n x3 x4 x8 x9 x10 x11 w = some z → Ev l G (jrm d_Law_tricks 0 0) y_Law_tricks (some (.int z.1), (jRx 101), z.2) 0 0 0 0 6 [some (.ref 2), some (.ref 98), some (.ref 99), some (.int x3), some (.int x4), some (.ref 93), some (.ref 95), some (.ref 100), some (.int x8), some (.int x9), some (.int x10), some (.int x11), none, none, none, none, none, none] [] (jRx 101) w := by
  intro n
  induction n with
  | zero => intro x3 x4 x8 x9 x10 x11 w z h; simp only [f_Law_tricks_h6] at h; cases h
  | succ n ih =>
    intro x3 x4 x8 x9 x10 x11 w z h
    rw [f_Law_tricks_h6] at h
    refine ev_seg (o := 10) (nL := 18) (q := 10) (xs := [(.iload 11, 2, 11, 0, .null), (.iload 4, 2, 4, 0, .null)]) (L' := [some (.ref 2), some (.ref 98), some (.ref 99), some (.int x3), some (.int x4), some (.ref 93), some (.ref 95), some (.ref 100), some (.int x8), some (.int x9), some (.int x10), some (.int x11), none, none, none, none, none, none]) (st' := [.int x4, .int x11]) (w' := w) (g := []) (K := []) (by decide +kernel) rfl rfl rfl rfl jk0 ?_
    refine ev_icmp_ge (off := 242) (tgt := 252) (by decide +kernel) (by decide) (fun c32 => ?_) (fun c32 => ?_)
    · replace h := jneg c32 h
      refine ev_seg (o := 10) (nL := 18) (q := 255) (xs := [(.aload_n 0, 1, 0, 0, .null), (.iconst 0, 1, 0, 0, .int 0), (.iconst 2, 1, 0, 0, .int 2)]) (L' := [some (.ref 2), some (.ref 98), some (.ref 99), some (.int x3), some (.int x4), some (.ref 93), some (.ref 95), some (.ref 100), some (.int x8), some (.int x9), some (.int x10), some (.int x11), none, none, none, none, none, none]) (st' := [.int 2, .int 0, .ref 2]) (w' := w) (g := []) (K := []) (by decide +kernel) rfl rfl rfl rfl jk0 ?_
      obtain ⟨q1, hq1, h⟩ := jbe h
      refine ev_callV (ci := 9) (a := 2) (y2 := y_Count_unseen) (o := 10) (idx := 103) (d2 := d_Count_unseen) (n := 2) (mc2 := 0) (ms2 := 0) (As := [.int 0, .int 2]) (st := []) (res2 := (some (.int q1.1), (jRx 101), q1.2)) (by decide +kernel) rfl lk_10_103 mo_Count_unseen mv_Count_unseen ⟨Nat.le_of_ble_eq_true rfl, Nat.le_of_ble_eq_true rfl⟩ rfl rfl (kz_2 (Nat.le_of_ble_eq_true rfl)) (by decide) rfl (Nat.le_of_ble_eq_true rfl) ⟨Nat.le_of_ble_eq_true rfl, Nat.le_of_ble_eq_true rfl⟩ hG (e_Count_unseen hG (Nat.le_of_ble_eq_true rfl) hq1) ?_
      refine ev_seg (o := 10) (nL := 18) (q := 260) (xs := [(.iload 10, 2, 10, 0, .null)]) (L' := [some (.ref 2), some (.ref 98), some (.ref 99), some (.int x3), some (.int x4), some (.ref 93), some (.ref 95), some (.ref 100), some (.int x8), some (.int x9), some (.int x10), some (.int x11), none, none, none, none, none, none]) (st' := [.int x10, .int q1.1]) (w' := q1.2) (g := []) (K := []) (by decide +kernel) rfl rfl rfl rfl jk0 ?_
      refine ev_icmp_ne (off := 29) (tgt := 289) (by decide +kernel) (by decide) (fun c6 => ?_) (fun c6 => ?_)
      · replace h := jneg c6 h
        refine ev_seg (o := 10) (nL := 18) (q := 290) (xs := [(.iconst 0, 1, 0, 0, .int 0)]) (L' := [some (.ref 2), some (.ref 98), some (.ref 99), some (.int x3), some (.int x4), some (.ref 93), some (.ref 95), some (.ref 100), some (.int x8), some (.int x9), some (.int x10), some (.int x11), none, none, none, none, none, none]) (st' := [.int 0]) (w' := q1.2) (g := []) (K := []) (by decide +kernel) rfl rfl rfl rfl jk0 ?_
        cases h
        exact ev_zret (by decide +kernel) rfl rfl rfl rfl rfl
      · replace h := jpos c6 h
        refine ev_seg (o := 10) (nL := 18) (q := 269) (xs := [(.aload_n 0, 1, 0, 0, .null), (.iconst 0, 1, 0, 0, .int 0), (.iconst 2, 1, 0, 0, .int 2), (.iload 10, 2, 10, 0, .null), (.iconst 0, 1, 0, 0, .int 0)]) (L' := [some (.ref 2), some (.ref 98), some (.ref 99), some (.int x3), some (.int x4), some (.ref 93), some (.ref 95), some (.ref 100), some (.int x8), some (.int x9), some (.int x10), some (.int x11), none, none, none, none, none, none]) (st' := [.int 0, .int x10, .int 2, .int 0, .ref 2]) (w' := q1.2) (g := []) (K := []) (by decide +kernel) rfl rfl rfl rfl jk0 ?_
        obtain ⟨q2, hq2, h⟩ := jbe h
        refine ev_callV (ci := 9) (a := 2) (y2 := y_Count_trick) (o := 10) (idx := 100) (d2 := d_Count_trick) (n := 4) (mc2 := 0) (ms2 := 0) (As := [.int 0, .int 2, .int x10, .int 0]) (st := []) (res2 := (some (.int q2.1), (jRx 101), q2.2)) (by decide +kernel) rfl lk_10_100 mo_Count_trick mv_Count_trick ⟨Nat.le_of_ble_eq_true rfl, Nat.le_of_ble_eq_true rfl⟩ rfl rfl (kz_2 (Nat.le_of_ble_eq_true rfl)) (by decide) rfl (Nat.le_of_ble_eq_true rfl) ⟨Nat.le_of_ble_eq_true rfl, Nat.le_of_ble_eq_true rfl⟩ hG (e_Count_trick hG (Nat.le_of_ble_eq_true rfl) hq2) ?_
        refine ev_seg (o := 10) (nL := 18) (q := 273) (xs := [(.iconst (-1), 1, 0, 0, .int (-1))]) (L' := [some (.ref 2), some (.ref 98), some (.ref 99), some (.int x3), some (.int x4), some (.ref 93), some (.ref 95), some (.ref 100), some (.int x8), some (.int x9), some (.int x10), some (.int x11), none, none, none, none, none, none]) (st' := [.int (-1), .int q2.1]) (w' := q2.2) (g := []) (K := []) (by decide +kernel) rfl rfl rfl rfl jk0 ?_
        refine ev_icmp_ne (off := 16) (tgt := 289) (by decide +kernel) (by decide) (fun c5 => ?_) (fun c5 => ?_)
        · replace h := jneg c5 h
          refine ev_seg (o := 10) (nL := 18) (q := 290) (xs := [(.iconst 0, 1, 0, 0, .int 0)]) (L' := [some (.ref 2), some (.ref 98), some (.ref 99), some (.int x3), some (.int x4), some (.ref 93), some (.ref 95), some (.ref 100), some (.int x8), some (.int x9), some (.int x10), some (.int x11), none, none, none, none, none, none]) (st' := [.int 0]) (w' := q2.2) (g := []) (K := []) (by decide +kernel) rfl rfl rfl rfl jk0 ?_
          cases h
          exact ev_zret (by decide +kernel) rfl rfl rfl rfl rfl
        · replace h := jpos c5 h
          refine ev_seg (o := 10) (nL := 18) (q := 279) (xs := [(.aload_n 0, 1, 0, 0, .null), (.iconst 1, 1, 0, 0, .int 1), (.iconst 2, 1, 0, 0, .int 2)]) (L' := [some (.ref 2), some (.ref 98), some (.ref 99), some (.int x3), some (.int x4), some (.ref 93), some (.ref 95), some (.ref 100), some (.int x8), some (.int x9), some (.int x10), some (.int x11), none, none, none, none, none, none]) (st' := [.int 2, .int 1, .ref 2]) (w' := q2.2) (g := []) (K := []) (by decide +kernel) rfl rfl rfl rfl jk0 ?_
          obtain ⟨q3, hq3, h⟩ := jbe h
          refine ev_callV (ci := 9) (a := 2) (y2 := y_Count_unseen) (o := 10) (idx := 103) (d2 := d_Count_unseen) (n := 2) (mc2 := 0) (ms2 := 0) (As := [.int 1, .int 2]) (st := []) (res2 := (some (.int q3.1), (jRx 101), q3.2)) (by decide +kernel) rfl lk_10_103 mo_Count_unseen mv_Count_unseen ⟨Nat.le_of_ble_eq_true rfl, Nat.le_of_ble_eq_true rfl⟩ rfl rfl (kz_2 (Nat.le_of_ble_eq_true rfl)) (by decide) rfl (Nat.le_of_ble_eq_true rfl) ⟨Nat.le_of_ble_eq_true rfl, Nat.le_of_ble_eq_true rfl⟩ hG (e_Count_unseen hG (Nat.le_of_ble_eq_true rfl) hq3) ?_
          refine ev_if_ne (off := 7) (tgt := 289) (by decide +kernel) (by decide) (fun c4 => ?_) (fun c4 => ?_)
          · replace h := jneg c4 h
            refine ev_seg (o := 10) (nL := 18) (q := 290) (xs := [(.iconst 0, 1, 0, 0, .int 0)]) (L' := [some (.ref 2), some (.ref 98), some (.ref 99), some (.int x3), some (.int x4), some (.ref 93), some (.ref 95), some (.ref 100), some (.int x8), some (.int x9), some (.int x10), some (.int x11), none, none, none, none, none, none]) (st' := [.int 0]) (w' := q3.2) (g := []) (K := []) (by decide +kernel) rfl rfl rfl rfl jk0 ?_
            cases h
            exact ev_zret (by decide +kernel) rfl rfl rfl rfl rfl
          · replace h := jpos c4 h
            refine ev_seg (o := 10) (nL := 18) (q := 290) (xs := [(.iconst 1, 1, 0, 0, .int 1), (.goto 4, 3, 0, 0, .null)]) (L' := [some (.ref 2), some (.ref 98), some (.ref 99), some (.int x3), some (.int x4), some (.ref 93), some (.ref 95), some (.ref 100), some (.int x8), some (.int x9), some (.int x10), some (.int x11), none, none, none, none, none, none]) (st' := [.int 1]) (w' := q3.2) (g := []) (K := []) (by decide +kernel) rfl rfl rfl rfl jk0 ?_
            cases h
            exact ev_zret (by decide +kernel) rfl rfl rfl rfl rfl
    · replace h := jpos c32 h
      refine ev_seg (o := 10) (nL := 18) (q := 20) (xs := [(.aload_n 1, 1, 1, 0, .null), (.aload_n 2, 1, 2, 0, .null), (.iload_n 3, 1, 3, 0, .null), (.iload 11, 2, 11, 0, .null), (.iload 9, 2, 9, 0, .null)]) (L' := [some (.ref 2), some (.ref 98), some (.ref 99), some (.int x3), some (.int x4), some (.ref 93), some (.ref 95), some (.ref 100), some (.int x8), some (.int x9), some (.int x10), some (.int x11), none, none, none, none, none, none]) (st' := [.int x9, .int x11, .int x3, .ref 99, .ref 98]) (w' := w) (g := []) (K := []) (by decide +kernel) rfl rfl rfl rfl jk0 ?_
      obtain ⟨q7, hq7, h⟩ := jbe h
      refine ev_callS (y2 := y_Law_where) (o := 10) (idx := 46) (d2 := d_Law_where) (n := 5) (mc2 := 0) (ms2 := 0) (As := [.ref 98, .ref 99, .int x3, .int x11, .int x9]) (st := []) (res2 := (some (.int q7.1), (jRx 101), q7.2)) (by decide +kernel) rfl lk_10_46 mo_Law_where ms_Law_where ⟨Nat.le_of_ble_eq_true rfl, Nat.le_of_ble_eq_true rfl⟩ rfl rfl (Nat.le_of_ble_eq_true rfl) ⟨Nat.le_of_ble_eq_true rfl, Nat.le_of_ble_eq_true rfl⟩ hG (e_Law_where hG hq7) ?_
      refine ev_seg (o := 10) (nL := 18) (q := 28) (xs := [(.istore 12, 2, 12, 0, .null), (.iconst 0, 1, 0, 0, .int 0), (.istore 13, 2, 13, 0, .null)]) (L' := [some (.ref 2), some (.ref 98), some (.ref 99), some (.int x3), some (.int x4), some (.ref 93), some (.ref 95), some (.ref 100), some (.int x8), some (.int x9), some (.int x10), some (.int x11), some (.int q7.1), some (.int 0), none, none, none, none]) (st' := []) (w' := q7.2) (g := []) (K := []) (by decide +kernel) rfl rfl rfl rfl jk0 ?_
      refine ev_mask [true, true, true, true, true, true, true, true, true, true, true, true, true, true, false, false, false, false] ?_
      exact t_Law_tricks_h28 hG ih jfu _ _ _ _ _ _ _ _ _ _ h
def f_Law_tricks (x3 : Int32) (x4 : Int32) (x8 : Int32) (x9 : Int32) (w : jW) : Option (Int32 × jW) :=
  f_Law_tricks_h6 jfu x3 x4 x8 x9 0 0 w
set_option maxRecDepth 20000 in
set_option maxHeartbeats 40000000 in
theorem e_Law_tricks {l : Launch} {G : jG} (hG : jX G) {x3 : Int32} {x4 : Int32} {x8 : Int32} {x9 : Int32} {w : jW} {z : (Int32 × jW)} (h : f_Law_tricks x3 x4 x8 x9 w = some z) : Ct l G y_Law_tricks d_Law_tricks 0 0 [.ref 2, .ref 98, .ref 99, .int x3, .int x4, .ref 93, .ref 95, .ref 100, .int x8, .int x9] (jRx 101) w (some (.int z.1), (jRx 101), z.2) := by
  rw [f_Law_tricks] at h
  refine Ct.of (L := [some (.ref 2), some (.ref 98), some (.ref 99), some (.int x3), some (.int x4), some (.ref 93), some (.ref 95), some (.ref 100), some (.int x8), some (.int x9), none, none, none, none, none, none, none, none]) (by decide) (Nat.le_of_ble_eq_true rfl) rfl ?_
  refine ev_seg (o := 10) (nL := 18) (q := 6) (xs := [(.iconst 0, 1, 0, 0, .int 0), (.istore 10, 2, 10, 0, .null), (.iconst 0, 1, 0, 0, .int 0), (.istore 11, 2, 11, 0, .null)]) (L' := [some (.ref 2), some (.ref 98), some (.ref 99), some (.int x3), some (.int x4), some (.ref 93), some (.ref 95), some (.ref 100), some (.int x8), some (.int x9), some (.int 0), some (.int 0), none, none, none, none, none, none]) (st' := []) (w' := w) (g := []) (K := []) (by decide +kernel) rfl rfl rfl rfl jk0 ?_
  refine ev_mask [true, true, true, true, true, true, true, true, true, true, true, true, false, false, false, false, false, false] ?_
  exact t_Law_tricks_h6 hG jfu _ _ _ _ _ _ _ _ h
def f_Law_shares_j623 (xs : Nat → Int32) (Ls : Nat) (s0 : Int32) (s1 : Int32) (w : jW) : Option (Int32 × jW) :=
  if s1 = s0 then
    some (1, w)
  else
    none
set_option maxRecDepth 20000 in
set_option maxHeartbeats 40000000 in
theorem t_Law_shares_j623 {l : Launch} {G : jG} (hG : jX G) {xs : Nat → Int32} {Ls : Nat} (hxs : True) (hLs : jscr G Ls xs) {s0 : Int32} {s1 : Int32} {w : jW} {z : (Int32 × jW)} (h : f_Law_shares_j623 xs Ls s0 s1 w = some z) : Ev l G (jrm d_Law_shares 4 17) y_Law_shares (some (.int z.1), (jRx 105), z.2) 4 17 4 17 623 [none, none, none, none, none, none, none, none, none, none, none, none, none, none, none, none, none, none, none, none, none, none, none, none, none, none, none] [.int s0, .int s1] (jRx 105) w := by
  rw [f_Law_shares_j623] at h
  refine ev_icmp_ne (off := 7) (tgt := 630) (by decide +kernel) (by decide) (fun c19 => ?_) (fun c19 => ?_)
  · replace h := jneg c19 h
    cases h
  · replace h := jpos c19 h
    refine ev_seg (o := 10) (nL := 27) (q := 631) (xs := [(.iconst 1, 1, 0, 0, .int 1), (.goto 4, 3, 0, 0, .null)]) (L' := [none, none, none, none, none, none, none, none, none, none, none, none, none, none, none, none, none, none, none, none, none, none, none, none, none, none, none]) (st' := [.int 1]) (w' := w) (g := []) (K := []) (by decide +kernel) rfl rfl rfl rfl jk0 ?_
    cases h
    exact ev_zret (by decide +kernel) rfl rfl rfl rfl rfl
def f_Law_shares_h482 (xs : Nat → Int32) (Ls : Nat) (k454 : Int32 → Int32 → Int32 → Int64 → Int64 → Int32 → Int64 → Int64 → Int32 → jW → Option (Int32 × jW)) : Nat → Int32 → Int32 → Int32 → Int64 → Int64 → Int32 → Int64 → Int64 → Int32 → Int64 → Int32 → jW → Option (Int32 × jW)
  | 0, _, _, _, _, _, _, _, _, _, _, _, _ => none
  | n + 1, x3, x4, x5, x6, x8, x14, x15, x17, x20, x21, x23, w =>
  if x23 < x4 then
    if ((x20 >>> (x23 &&& 31)) &&& 1) = 1 then
      if jal [jin x23 5, jin x23 5] = true then
      (f_Law_shares_h482 xs Ls k454 n) x3 x4 x5 x6 x8 x14 x15 x17 x20 (x21 + (Int32.toInt64 ((w.1 103 (Int32.toNatClampNeg x23)) * (w.1 104 (Int32.toNatClampNeg x23))))) (x23 + 1) w
      else none
    else
      (f_Law_shares_h482 xs Ls k454 n) x3 x4 x5 x6 x8 x14 x15 x17 x20 (x21 + 0) (x23 + 1) w
  else
    k454 x3 x4 x5 x6 x8 x14 (if x21 < x15 then x15 else x21) x17 (x20 + 1) w
set_option maxRecDepth 20000 in
set_option maxHeartbeats 40000000 in
theorem t_Law_shares_h482 {l : Launch} {G : jG} (hG : jX G) {xs : Nat → Int32} {Ls : Nat} (hxs : True) (hLs : jscr G Ls xs) {k454 : Int32 → Int32 → Int32 → Int64 → Int64 → Int32 → Int64 → Int64 → Int32 → jW → Option (Int32 × jW)} (hk454 : ∀ (x3 : Int32) (x4 : Int32) (x5 : Int32) (x6 : Int64) (x8 : Int64) (x14 : Int32) (x15 : Int64) (x17 : Int64) (x20 : Int32) (w : jW) (z : (Int32 × jW)), k454 x3 x4 x5 x6 x8 x14 x15 x17 x20 w = some z → Ev l G (jrm d_Law_shares 4 17) y_Law_shares (some (.int z.1), (jRx 105), z.2) 4 17 4 17 454 [some (.ref 2), none, none, some (.int x3), some (.int x4), some (.int x5), some (.long x6), none, some (.long x8), none, none, none, some (.ref 103), none, some (.int x14), some (.long x15), none, some (.long x17), none, some (.ref 104), some (.int x20), none, none, none, none, none, none] [] (jRx 105) w) : ∀ (n : Nat) (x3 : Int32) (x4 : Int32) (x5 : Int32) (x6 : Int64) (x8 : Int64) (x14 : Int32) (x15 : Int64) (x17 : Int64) (x20 : Int32) (x21 : Int64) (x23 : Int32) (w : jW) (z : (Int32 × jW)), f_Law_shares_h482 xs Ls k454 n x3 x4 x5 x6 x8 x14 x15 x17 x20 x21 x23 w = some z → Ev l G (jrm d_Law_shares 4 17) y_Law_shares (some (.int z.1), (jRx 105), z.2) 4 17 4 17 482 [some (.ref 2), none, none, some (.int x3), some (.int x4), some (.int x5), some (.long x6), none, some (.long x8), none, none, none, some (.ref 103), none, some (.int x14), some (.long x15), none, some (.long x17), none, some (.ref 104), some (.int x20), some (.long x21), none, some (.int x23), none, none, none] [] (jRx 105) w := by
  intro n
  induction n with
  | zero => intro x3 x4 x5 x6 x8 x14 x15 x17 x20 x21 x23 w z h; simp only [f_Law_shares_h482] at h; cases h
  | succ n ih =>
    intro x3 x4 x5 x6 x8 x14 x15 x17 x20 x21 x23 w z h
    rw [f_Law_shares_h482] at h
    refine ev_seg (o := 10) (nL := 27) (q := 486) (xs := [(.iload 23, 2, 23, 0, .null), (.iload 4, 2, 4, 0, .null)]) (L' := [some (.ref 2), none, none, some (.int x3), some (.int x4), some (.int x5), some (.long x6), none, some (.long x8), none, none, none, some (.ref 103), none, some (.int x14), some (.long x15), none, some (.long x17), none, some (.ref 104), some (.int x20), some (.long x21), none, some (.int x23), none, none, none]) (st' := [.int x4, .int x23]) (w' := w) (g := []) (K := []) (by decide +kernel) rfl rfl rfl rfl jk0 ?_
    refine ev_icmp_ge (off := 41) (tgt := 527) (by decide +kernel) (by decide) (fun c27 => ?_) (fun c27 => ?_)
    · replace h := jneg c27 h
      refine ev_seg (o := 10) (nL := 27) (q := 531) (xs := [(.lload 15, 2, 15, 0, .null), (.lload 21, 2, 21, 0, .null)]) (L' := [some (.ref 2), none, none, some (.int x3), some (.int x4), some (.int x5), some (.long x6), none, some (.long x8), none, none, none, some (.ref 103), none, some (.int x14), some (.long x15), none, some (.long x17), none, some (.ref 104), some (.int x20), some (.long x21), none, some (.int x23), none, none, none]) (st' := [.long x21, .long x15]) (w' := w) (g := []) (K := []) (by decide +kernel) rfl rfl rfl rfl jk0 ?_
      refine ev_maxl (o := 10) (idx := 123) (by decide +kernel) rfl lk_10_123 (Nat.le_of_ble_eq_true rfl) (Nat.le_of_ble_eq_true rfl) (Nat.le_of_ble_eq_true rfl) (Nat.le_of_ble_eq_true rfl) ?_
      refine ev_seg (o := 10) (nL := 27) (q := 454) (xs := [(.lstore 15, 2, 15, 0, .null), (.iinc 20 1, 3, 20, 0, .int 1), (.goto (-85), 3, 0, 0, .null)]) (L' := [some (.ref 2), none, none, some (.int x3), some (.int x4), some (.int x5), some (.long x6), none, some (.long x8), none, none, none, some (.ref 103), none, some (.int x14), some (.long (if x21 < x15 then x15 else x21)), none, some (.long x17), none, some (.ref 104), some (.int (x20 + 1)), some (.long x21), none, some (.int x23), none, none, none]) (st' := []) (w' := w) (g := []) (K := []) (by decide +kernel) rfl rfl rfl rfl jk0 ?_
      refine ev_mask [true, false, false, true, true, true, true, false, true, false, false, false, true, false, true, true, false, true, false, true, true, false, false, false, false, false, false] ?_
      exact hk454 _ _ _ _ _ _ _ _ _ _ _ h
    · replace h := jpos c27 h
      refine ev_seg (o := 10) (nL := 27) (q := 499) (xs := [(.lload 21, 2, 21, 0, .null), (.iload 20, 2, 20, 0, .null), (.iload 23, 2, 23, 0, .null), (.ishr, 1, 0, 0, .null), (.iconst 1, 1, 0, 0, .int 1), (.iand, 1, 0, 0, .null), (.iconst 1, 1, 0, 0, .int 1)]) (L' := [some (.ref 2), none, none, some (.int x3), some (.int x4), some (.int x5), some (.long x6), none, some (.long x8), none, none, none, some (.ref 103), none, some (.int x14), some (.long x15), none, some (.long x17), none, some (.ref 104), some (.int x20), some (.long x21), none, some (.int x23), none, none, none]) (st' := [.int 1, .int ((x20 >>> (x23 &&& 31)) &&& 1), .long x21]) (w' := w) (g := []) (K := []) (by decide +kernel) rfl rfl rfl rfl jk0 ?_
      refine ev_icmp_ne (off := 18) (tgt := 517) (by decide +kernel) (by decide) (fun c26 => ?_) (fun c26 => ?_)
      · replace h := jneg c26 h
        refine ev_seg (o := 10) (nL := 27) (q := 482) (xs := [(.lconst 0, 1, 0, 0, .long 0), (.ladd, 1, 0, 0, .null), (.lstore 21, 2, 21, 0, .null), (.iinc 23 1, 3, 23, 0, .int 1), (.goto (-42), 3, 0, 0, .null)]) (L' := [some (.ref 2), none, none, some (.int x3), some (.int x4), some (.int x5), some (.long x6), none, some (.long x8), none, none, none, some (.ref 103), none, some (.int x14), some (.long x15), none, some (.long x17), none, some (.ref 104), some (.int x20), some (.long (x21 + 0)), none, some (.int (x23 + 1)), none, none, none]) (st' := []) (w' := w) (g := []) (K := []) (by decide +kernel) rfl rfl rfl rfl jk0 ?_
        refine ev_mask [true, false, false, true, true, true, true, false, true, false, false, false, true, false, true, true, false, true, false, true, true, true, false, true, false, false, false] ?_
        exact ih _ _ _ _ _ _ _ _ _ _ _ _ _ h
      · replace h := jpos c26 h
        obtain ⟨hg25, h⟩ := jgd h
        refine ev_seg (o := 10) (nL := 27) (q := 482) (xs := [(.aload 12, 2, 12, 0, .null), (.iload 23, 2, 23, 0, .null), (.iaload, 1, 0, 0, .null), (.aload 19, 2, 19, 0, .null), (.iload 23, 2, 23, 0, .null), (.iaload, 1, 0, 0, .null), (.imul, 1, 0, 0, .null), (.i2l, 1, 0, 0, .null), (.goto 4, 3, 0, 0, .null), (.ladd, 1, 0, 0, .null), (.lstore 21, 2, 21, 0, .null), (.iinc 23 1, 3, 23, 0, .int 1), (.goto (-42), 3, 0, 0, .null)]) (L' := [some (.ref 2), none, none, some (.int x3), some (.int x4), some (.int x5), some (.long x6), none, some (.long x8), none, none, none, some (.ref 103), none, some (.int x14), some (.long x15), none, some (.long x17), none, some (.ref 104), some (.int x20), some (.long (x21 + (Int32.toInt64 ((w.1 103 (Int32.toNatClampNeg x23)) * (w.1 104 (Int32.toNatClampNeg x23)))))), none, some (.int (x23 + 1)), none, none, none]) (st' := []) (w' := w) (g := [jin x23 5, jin x23 5]) (K := [(104, 20), (103, 20)]) (by decide +kernel) rfl rfl rfl hg25 (jk1 (rfl) (jk1 (rfl) jk0)) ?_
        refine ev_mask [true, false, false, true, true, true, true, false, true, false, false, false, true, false, true, true, false, true, false, true, true, true, false, true, false, false, false] ?_
        exact ih _ _ _ _ _ _ _ _ _ _ _ _ _ h
def f_Law_shares_h454 (xs : Nat → Int32) (Ls : Nat) : Nat → Int32 → Int32 → Int32 → Int64 → Int64 → Int32 → Int64 → Int64 → Int32 → jW → Option (Int32 × jW)
  | 0, _, _, _, _, _, _, _, _, _, _ => none
  | n + 1, x3, x4, x5, x6, x8, x14, x15, x17, x20, w =>
  if x20 < ((1 : Int32) <<< (x4 &&& 31)) then
    Option.bind (f_Intg_bitCount x20 w) fun q24 =>
    if q24.1 = x5 then
      f_Law_shares_h482 xs Ls (f_Law_shares_h454 xs Ls n) jfu x3 x4 x5 x6 x8 x14 x15 x17 x20 0 0 q24.2
    else
      (f_Law_shares_h454 xs Ls n) x3 x4 x5 x6 x8 x14 x15 x17 (x20 + 1) q24.2
  else
    if jal [jin 4 5, jin 3 5, jin 2 5, jin 1 5, jin 0 5] = true then
    Option.bind (f_Count_proof x3 x5 (w.1 103 (Int32.toNatClampNeg 0)) (w.1 103 (Int32.toNatClampNeg 1)) (w.1 103 (Int32.toNatClampNeg 2)) (w.1 103 (Int32.toNatClampNeg 3)) (w.1 103 (Int32.toNatClampNeg 4)) w) fun q18 =>
    if x14 = 0 then
      if q18.1 = (-1) then
        some (1, q18.2)
      else
        none
    else
      if (lg_cmp (x15 * x8) (x6 * x17)) < 0 then
        none
      else
        if (lg_cmp (x15 * x8) (x6 * x17)) = 0 then
          f_Law_shares_j623 xs Ls 0 q18.1 q18.2
        else
          f_Law_shares_j623 xs Ls 1 q18.1 q18.2
    else none
set_option maxRecDepth 20000 in
set_option maxHeartbeats 40000000 in
theorem t_Law_shares_h454 {l : Launch} {G : jG} (hG : jX G) {xs : Nat → Int32} {Ls : Nat} (hxs : True) (hLs : jscr G Ls xs) : ∀ (n : Nat) (x3 : Int32) (x4 : Int32) (x5 : Int32) (x6 : Int64) (x8 : Int64) (x14 : Int32) (x15 : Int64) (x17 : Int64) (x20 : Int32) (w : jW) (z : (Int32 × jW)), f_Law_shares_h454 xs Ls n x3 x4 x5 x6 x8 x14 x15 x17 x20 w = some z → Ev l G (jrm d_Law_shares 4 17) y_Law_shares (some (.int z.1), (jRx 105), z.2) 4 17 4 17 454 [some (.ref 2), none, none, some (.int x3), some (.int x4), some (.int x5), some (.long x6), none, some (.long x8), none, none, none, some (.ref 103), none, some (.int x14), some (.long x15), none, some (.long x17), none, some (.ref 104), some (.int x20), none, none, none, none, none, none] [] (jRx 105) w := by
  intro n
  induction n with
  | zero => intro x3 x4 x5 x6 x8 x14 x15 x17 x20 w z h; simp only [f_Law_shares_h454] at h; cases h
  | succ n ih =>
    intro x3 x4 x5 x6 x8 x14 x15 x17 x20 w z h
    rw [f_Law_shares_h454] at h
    refine ev_seg (o := 10) (nL := 27) (q := 460) (xs := [(.iload 20, 2, 20, 0, .null), (.iconst 1, 1, 0, 0, .int 1), (.iload 4, 2, 4, 0, .null), (.ishl, 1, 0, 0, .null)]) (L' := [some (.ref 2), none, none, some (.int x3), some (.int x4), some (.int x5), some (.long x6), none, some (.long x8), none, none, none, some (.ref 103), none, some (.int x14), some (.long x15), none, some (.long x17), none, some (.ref 104), some (.int x20), none, none, none, none, none, none]) (st' := [.int ((1 : Int32) <<< (x4 &&& 31)), .int x20]) (w' := w) (g := []) (K := []) (by decide +kernel) rfl rfl rfl rfl jk0 ?_
    refine ev_icmp_ge (off := 82) (tgt := 542) (by decide +kernel) (by decide) (fun c29 => ?_) (fun c29 => ?_)
    · replace h := jneg c29 h
      obtain ⟨hg17, h⟩ := jgd h
      refine ev_seg (o := 10) (nL := 27) (q := 566) (xs := [(.aload_n 0, 1, 0, 0, .null), (.iload_n 3, 1, 3, 0, .null), (.iload 5, 2, 5, 0, .null), (.aload 12, 2, 12, 0, .null), (.iconst 0, 1, 0, 0, .int 0), (.iaload, 1, 0, 0, .null), (.aload 12, 2, 12, 0, .null), (.iconst 1, 1, 0, 0, .int 1), (.iaload, 1, 0, 0, .null), (.aload 12, 2, 12, 0, .null), (.iconst 2, 1, 0, 0, .int 2), (.iaload, 1, 0, 0, .null), (.aload 12, 2, 12, 0, .null), (.iconst 3, 1, 0, 0, .int 3), (.iaload, 1, 0, 0, .null), (.aload 12, 2, 12, 0, .null), (.iconst 4, 1, 0, 0, .int 4), (.iaload, 1, 0, 0, .null)]) (L' := [some (.ref 2), none, none, some (.int x3), some (.int x4), some (.int x5), some (.long x6), none, some (.long x8), none, none, none, some (.ref 103), none, some (.int x14), some (.long x15), none, some (.long x17), none, some (.ref 104), some (.int x20), none, none, none, none, none, none]) (st' := [.int (w.1 103 (Int32.toNatClampNeg 4)), .int (w.1 103 (Int32.toNatClampNeg 3)), .int (w.1 103 (Int32.toNatClampNeg 2)), .int (w.1 103 (Int32.toNatClampNeg 1)), .int (w.1 103 (Int32.toNatClampNeg 0)), .int x5, .int x3, .ref 2]) (w' := w) (g := [jin 4 5, jin 3 5, jin 2 5, jin 1 5, jin 0 5]) (K := [(103, 20), (103, 20), (103, 20), (103, 20), (103, 20)]) (by decide +kernel) rfl rfl rfl hg17 (jk1 (rfl) (jk1 (rfl) (jk1 (rfl) (jk1 (rfl) (jk1 (rfl) jk0))))) ?_
      obtain ⟨q18, hq18, h⟩ := jbe h
      refine ev_callV (ci := 9) (a := 2) (y2 := y_Count_proof) (o := 10) (idx := 127) (d2 := d_Count_proof) (n := 7) (mc2 := 0) (ms2 := 0) (As := [.int x3, .int x5, .int (w.1 103 (Int32.toNatClampNeg 0)), .int (w.1 103 (Int32.toNatClampNeg 1)), .int (w.1 103 (Int32.toNatClampNeg 2)), .int (w.1 103 (Int32.toNatClampNeg 3)), .int (w.1 103 (Int32.toNatClampNeg 4))]) (st := []) (res2 := (some (.int q18.1), (jRx 105), q18.2)) (by decide +kernel) rfl lk_10_127 mo_Count_proof mv_Count_proof ⟨Nat.le_of_ble_eq_true rfl, Nat.le_of_ble_eq_true rfl⟩ rfl rfl (kz_2 (Nat.le_of_ble_eq_true rfl)) (by decide) rfl (Nat.le_of_ble_eq_true rfl) ⟨Nat.le_of_ble_eq_true rfl, Nat.le_of_ble_eq_true rfl⟩ hG (e_Count_proof hG (Nat.le_of_ble_eq_true rfl) hq18) ?_
      refine ev_seg (o := 10) (nL := 27) (q := 573) (xs := [(.istore 20, 2, 20, 0, .null), (.iload 14, 2, 14, 0, .null)]) (L' := [some (.ref 2), none, none, some (.int x3), some (.int x4), some (.int x5), some (.long x6), none, some (.long x8), none, none, none, some (.ref 103), none, some (.int x14), some (.long x15), none, some (.long x17), none, some (.ref 104), some (.int q18.1), none, none, none, none, none, none]) (st' := [.int x14]) (w' := q18.2) (g := []) (K := []) (by decide +kernel) rfl rfl rfl rfl jk0 ?_
      refine ev_if_ne (off := 15) (tgt := 588) (by decide +kernel) (by decide) (fun c23 => ?_) (fun c23 => ?_)
      · replace h := jneg c23 h
        refine ev_seg (o := 10) (nL := 27) (q := 599) (xs := [(.lload 15, 2, 15, 0, .null), (.lload 8, 2, 8, 0, .null), (.lmul, 1, 0, 0, .null), (.lload 6, 2, 6, 0, .null), (.lload 17, 2, 17, 0, .null), (.lmul, 1, 0, 0, .null), (.lcmp, 1, 0, 0, .null)]) (L' := [some (.ref 2), none, none, some (.int x3), some (.int x4), some (.int x5), some (.long x6), none, some (.long x8), none, none, none, some (.ref 103), none, some (.int x14), some (.long x15), none, some (.long x17), none, some (.ref 104), some (.int q18.1), none, none, none, none, none, none]) (st' := [.int (lg_cmp (x15 * x8) (x6 * x17))]) (w' := q18.2) (g := []) (K := []) (by decide +kernel) rfl rfl rfl rfl jk0 ?_
        refine ev_if_lt (off := 31) (tgt := 630) (by decide +kernel) (by decide) (fun c21 => ?_) (fun c21 => ?_)
        · replace h := jpos c21 h
          cases h
        · replace h := jneg c21 h
          refine ev_seg (o := 10) (nL := 27) (q := 615) (xs := [(.iload 20, 2, 20, 0, .null), (.lload 15, 2, 15, 0, .null), (.lload 8, 2, 8, 0, .null), (.lmul, 1, 0, 0, .null), (.lload 6, 2, 6, 0, .null), (.lload 17, 2, 17, 0, .null), (.lmul, 1, 0, 0, .null), (.lcmp, 1, 0, 0, .null)]) (L' := [some (.ref 2), none, none, some (.int x3), some (.int x4), some (.int x5), some (.long x6), none, some (.long x8), none, none, none, some (.ref 103), none, some (.int x14), some (.long x15), none, some (.long x17), none, some (.ref 104), some (.int q18.1), none, none, none, none, none, none]) (st' := [.int (lg_cmp (x15 * x8) (x6 * x17)), .int q18.1]) (w' := q18.2) (g := []) (K := []) (by decide +kernel) rfl rfl rfl rfl jk0 ?_
          refine ev_if_ne (off := 7) (tgt := 622) (by decide +kernel) (by decide) (fun c20 => ?_) (fun c20 => ?_)
          · replace h := jneg c20 h
            refine ev_seg (o := 10) (nL := 27) (q := 623) (xs := [(.iconst 1, 1, 0, 0, .int 1)]) (L' := [some (.ref 2), none, none, some (.int x3), some (.int x4), some (.int x5), some (.long x6), none, some (.long x8), none, none, none, some (.ref 103), none, some (.int x14), some (.long x15), none, some (.long x17), none, some (.ref 104), some (.int q18.1), none, none, none, none, none, none]) (st' := [.int 1, .int q18.1]) (w' := q18.2) (g := []) (K := []) (by decide +kernel) rfl rfl rfl rfl jk0 ?_
            refine ev_mask [false, false, false, false, false, false, false, false, false, false, false, false, false, false, false, false, false, false, false, false, false, false, false, false, false, false, false] ?_
            exact t_Law_shares_j623 hG hxs hLs h
          · replace h := jpos c20 h
            refine ev_seg (o := 10) (nL := 27) (q := 623) (xs := [(.iconst 0, 1, 0, 0, .int 0), (.goto 4, 3, 0, 0, .null)]) (L' := [some (.ref 2), none, none, some (.int x3), some (.int x4), some (.int x5), some (.long x6), none, some (.long x8), none, none, none, some (.ref 103), none, some (.int x14), some (.long x15), none, some (.long x17), none, some (.ref 104), some (.int q18.1), none, none, none, none, none, none]) (st' := [.int 0, .int q18.1]) (w' := q18.2) (g := []) (K := []) (by decide +kernel) rfl rfl rfl rfl jk0 ?_
            refine ev_mask [false, false, false, false, false, false, false, false, false, false, false, false, false, false, false, false, false, false, false, false, false, false, false, false, false, false, false] ?_
            exact t_Law_shares_j623 hG hxs hLs h
      · replace h := jpos c23 h
        refine ev_seg (o := 10) (nL := 27) (q := 579) (xs := [(.iload 20, 2, 20, 0, .null), (.iconst (-1), 1, 0, 0, .int (-1))]) (L' := [some (.ref 2), none, none, some (.int x3), some (.int x4), some (.int x5), some (.long x6), none, some (.long x8), none, none, none, some (.ref 103), none, some (.int x14), some (.long x15), none, some (.long x17), none, some (.ref 104), some (.int q18.1), none, none, none, none, none, none]) (st' := [.int (-1), .int q18.1]) (w' := q18.2) (g := []) (K := []) (by decide +kernel) rfl rfl rfl rfl jk0 ?_
        refine ev_icmp_ne (off := 7) (tgt := 586) (by decide +kernel) (by decide) (fun c22 => ?_) (fun c22 => ?_)
        · replace h := jneg c22 h
          cases h
        · replace h := jpos c22 h
          refine ev_seg (o := 10) (nL := 27) (q := 587) (xs := [(.iconst 1, 1, 0, 0, .int 1), (.goto 4, 3, 0, 0, .null)]) (L' := [some (.ref 2), none, none, some (.int x3), some (.int x4), some (.int x5), some (.long x6), none, some (.long x8), none, none, none, some (.ref 103), none, some (.int x14), some (.long x15), none, some (.long x17), none, some (.ref 104), some (.int q18.1), none, none, none, none, none, none]) (st' := [.int 1]) (w' := q18.2) (g := []) (K := []) (by decide +kernel) rfl rfl rfl rfl jk0 ?_
          cases h
          exact ev_zret (by decide +kernel) rfl rfl rfl rfl rfl
    · replace h := jpos c29 h
      refine ev_seg (o := 10) (nL := 27) (q := 465) (xs := [(.iload 20, 2, 20, 0, .null)]) (L' := [some (.ref 2), none, none, some (.int x3), some (.int x4), some (.int x5), some (.long x6), none, some (.long x8), none, none, none, some (.ref 103), none, some (.int x14), some (.long x15), none, some (.long x17), none, some (.ref 104), some (.int x20), none, none, none, none, none, none]) (st' := [.int x20]) (w' := w) (g := []) (K := []) (by decide +kernel) rfl rfl rfl rfl jk0 ?_
      obtain ⟨q24, hq24, h⟩ := jbe h
      refine ev_callS (y2 := y_Intg_bitCount) (o := 10) (idx := 110) (d2 := d_Intg_bitCount) (n := 1) (mc2 := 0) (ms2 := 0) (As := [.int x20]) (st := []) (res2 := (some (.int q24.1), (jRx 105), q24.2)) (by decide +kernel) rfl lk_10_110 mo_Intg_bitCount ms_Intg_bitCount ⟨Nat.le_of_ble_eq_true rfl, Nat.le_of_ble_eq_true rfl⟩ rfl rfl (Nat.le_of_ble_eq_true rfl) ⟨Nat.le_of_ble_eq_true rfl, Nat.le_of_ble_eq_true rfl⟩ hG (e_Intg_bitCount hG (Nat.le_of_ble_eq_true rfl) hq24) ?_
      refine ev_seg (o := 10) (nL := 27) (q := 470) (xs := [(.iload 5, 2, 5, 0, .null)]) (L' := [some (.ref 2), none, none, some (.int x3), some (.int x4), some (.int x5), some (.long x6), none, some (.long x8), none, none, none, some (.ref 103), none, some (.int x14), some (.long x15), none, some (.long x17), none, some (.ref 104), some (.int x20), none, none, none, none, none, none]) (st' := [.int x5, .int q24.1]) (w' := q24.2) (g := []) (K := []) (by decide +kernel) rfl rfl rfl rfl jk0 ?_
      refine ev_icmp_eq (off := 6) (tgt := 476) (by decide +kernel) (by decide) (fun c28 => ?_) (fun c28 => ?_)
      · replace h := jpos c28 h
        refine ev_seg (o := 10) (nL := 27) (q := 482) (xs := [(.lconst 0, 1, 0, 0, .long 0), (.lstore 21, 2, 21, 0, .null), (.iconst 0, 1, 0, 0, .int 0), (.istore 23, 2, 23, 0, .null)]) (L' := [some (.ref 2), none, none, some (.int x3), some (.int x4), some (.int x5), some (.long x6), none, some (.long x8), none, none, none, some (.ref 103), none, some (.int x14), some (.long x15), none, some (.long x17), none, some (.ref 104), some (.int x20), some (.long 0), none, some (.int 0), none, none, none]) (st' := []) (w' := q24.2) (g := []) (K := []) (by decide +kernel) rfl rfl rfl rfl jk0 ?_
        refine ev_mask [true, false, false, true, true, true, true, false, true, false, false, false, true, false, true, true, false, true, false, true, true, true, false, true, false, false, false] ?_
        exact t_Law_shares_h482 hG hxs hLs ih jfu _ _ _ _ _ _ _ _ _ _ _ _ _ h
      · replace h := jneg c28 h
        refine ev_seg (o := 10) (nL := 27) (q := 454) (xs := [(.goto 63, 3, 0, 0, .null), (.iinc 20 1, 3, 20, 0, .int 1), (.goto (-85), 3, 0, 0, .null)]) (L' := [some (.ref 2), none, none, some (.int x3), some (.int x4), some (.int x5), some (.long x6), none, some (.long x8), none, none, none, some (.ref 103), none, some (.int x14), some (.long x15), none, some (.long x17), none, some (.ref 104), some (.int (x20 + 1)), none, none, none, none, none, none]) (st' := []) (w' := q24.2) (g := []) (K := []) (by decide +kernel) rfl rfl rfl rfl jk0 ?_
        refine ev_mask [true, false, false, true, true, true, true, false, true, false, false, false, true, false, true, true, false, true, false, true, true, false, false, false, false, false, false] ?_
        exact ih _ _ _ _ _ _ _ _ _ _ _ h
def f_Law_shares_h404 (xs : Nat → Int32) (Ls : Nat) : Nat → Int32 → Int32 → Int32 → Int64 → Int64 → Int32 → Int32 → Int64 → Int64 → Int32 → jW → Option (Int32 × jW)
  | 0, _, _, _, _, _, _, _, _, _, _, _ => none
  | n + 1, x3, x4, x5, x6, x8, x13, x14, x15, x17, x20, w =>
  if x20 < 5 then
    if ((x3 >>> (x20 &&& 31)) &&& 1) = 0 then
      (f_Law_shares_h404 xs Ls n) x3 x4 x5 x6 x8 x13 x14 x15 x17 (x20 + 1) w
    else
      if jal [jin x13 5, jin x20 5] = true then
      jlw ((jup w.1 104 (Int32.toNatClampNeg x13) (w.1 101 (Int32.toNatClampNeg x20))), w.2) fun w31 =>
      if jal [jin x13 5] = true then
      (f_Law_shares_h404 xs Ls n) x3 x4 x5 x6 x8 (x13 + 1) x14 x15 (x17 + (Int32.toInt64 (w31.1 103 (Int32.toNatClampNeg x13)))) (x20 + 1) w31
      else none else none
  else
    f_Law_shares_h454 xs Ls jfu x3 x4 x5 x6 x8 x14 x15 x17 0 w
set_option maxRecDepth 20000 in
set_option maxHeartbeats 40000000 in
theorem t_Law_shares_h404 {l : Launch} {G : jG} (hG : jX G) {xs : Nat → Int32} {Ls : Nat} (hxs : True) (hLs : jscr G Ls xs) : ∀ (n : Nat) (x3 : Int32) (x4 : Int32) (x5 : Int32) (x6 : Int64) (x8 : Int64) (x13 : Int32) (x14 : Int32) (x15 : Int64) (x17 : Int64) (x20 : Int32) (w : jW) (z : (Int32 × jW)), f_Law_shares_h404 xs Ls n x3 x4 x5 x6 x8 x13 x14 x15 x17 x20 w = some z → Ev l G (jrm d_Law_shares 4 17) y_Law_shares (some (.int z.1), (jRx 105), z.2) 4 17 4 17 404 [some (.ref 2), none, some (.ref 101), some (.int x3), some (.int x4), some (.int x5), some (.long x6), none, some (.long x8), none, none, none, some (.ref 103), some (.int x13), some (.int x14), some (.long x15), none, some (.long x17), none, some (.ref 104), some (.int x20), none, none, none, none, none, none] [] (jRx 105) w := by
  intro n
  induction n with
  | zero => intro x3 x4 x5 x6 x8 x13 x14 x15 x17 x20 w z h; simp only [f_Law_shares_h404] at h; cases h
  | succ n ih =>
    intro x3 x4 x5 x6 x8 x13 x14 x15 x17 x20 w z h
    rw [f_Law_shares_h404] at h
    refine ev_seg (o := 10) (nL := 27) (q := 407) (xs := [(.iload 20, 2, 20, 0, .null), (.iconst 5, 1, 0, 0, .int 5)]) (L' := [some (.ref 2), none, some (.ref 101), some (.int x3), some (.int x4), some (.int x5), some (.long x6), none, some (.long x8), none, none, none, some (.ref 103), some (.int x13), some (.int x14), some (.long x15), none, some (.long x17), none, some (.ref 104), some (.int x20), none, none, none, none, none, none]) (st' := [.int 5, .int x20]) (w' := w) (g := []) (K := []) (by decide +kernel) rfl rfl rfl rfl jk0 ?_
    refine ev_icmp_ge (off := 44) (tgt := 451) (by decide +kernel) (by decide) (fun c34 => ?_) (fun c34 => ?_)
    · replace h := jneg c34 h
      refine ev_seg (o := 10) (nL := 27) (q := 454) (xs := [(.iconst 0, 1, 0, 0, .int 0), (.istore 20, 2, 20, 0, .null)]) (L' := [some (.ref 2), none, some (.ref 101), some (.int x3), some (.int x4), some (.int x5), some (.long x6), none, some (.long x8), none, none, none, some (.ref 103), some (.int x13), some (.int x14), some (.long x15), none, some (.long x17), none, some (.ref 104), some (.int 0), none, none, none, none, none, none]) (st' := []) (w' := w) (g := []) (K := []) (by decide +kernel) rfl rfl rfl rfl jk0 ?_
      refine ev_mask [true, false, false, true, true, true, true, false, true, false, false, false, true, false, true, true, false, true, false, true, true, false, false, false, false, false, false] ?_
      exact t_Law_shares_h454 hG hxs hLs jfu _ _ _ _ _ _ _ _ _ _ _ h
    · replace h := jpos c34 h
      refine ev_seg (o := 10) (nL := 27) (q := 416) (xs := [(.iload_n 3, 1, 3, 0, .null), (.iload 20, 2, 20, 0, .null), (.ishr, 1, 0, 0, .null), (.iconst 1, 1, 0, 0, .int 1), (.iand, 1, 0, 0, .null)]) (L' := [some (.ref 2), none, some (.ref 101), some (.int x3), some (.int x4), some (.int x5), some (.long x6), none, some (.long x8), none, none, none, some (.ref 103), some (.int x13), some (.int x14), some (.long x15), none, some (.long x17), none, some (.ref 104), some (.int x20), none, none, none, none, none, none]) (st' := [.int ((x3 >>> (x20 &&& 31)) &&& 1)]) (w' := w) (g := []) (K := []) (by decide +kernel) rfl rfl rfl rfl jk0 ?_
      refine ev_if_ne (off := 6) (tgt := 422) (by decide +kernel) (by decide) (fun c33 => ?_) (fun c33 => ?_)
      · replace h := jneg c33 h
        obtain ⟨hg30, h⟩ := jgd h
        refine ev_seg (o := 10) (nL := 27) (q := 431) (xs := [(.aload 19, 2, 19, 0, .null), (.iload 13, 2, 13, 0, .null), (.aload_n 2, 1, 2, 0, .null), (.iload 20, 2, 20, 0, .null), (.iaload, 1, 0, 0, .null), (.iastore, 1, 0, 0, .null)]) (L' := [some (.ref 2), none, some (.ref 101), some (.int x3), some (.int x4), some (.int x5), some (.long x6), none, some (.long x8), none, none, none, some (.ref 103), some (.int x13), some (.int x14), some (.long x15), none, some (.long x17), none, some (.ref 104), some (.int x20), none, none, none, none, none, none]) (st' := []) (w' := ((jup w.1 104 (Int32.toNatClampNeg x13) (w.1 101 (Int32.toNatClampNeg x20))), w.2)) (g := [jin x13 5, jin x20 5]) (K := [(104, 20), (101, 20)]) (by decide +kernel) rfl rfl rfl hg30 (jk1 (rfl) (jk1 (rfl) jk0)) ?_
        refine jlw_c (P := fun w31 => Ev l G (jrm d_Law_shares 4 17) y_Law_shares (some (.int z.1), (jRx 105), z.2) 4 17 4 17 431 [some (.ref 2), none, some (.ref 101), some (.int x3), some (.int x4), some (.int x5), some (.long x6), none, some (.long x8), none, none, none, some (.ref 103), some (.int x13), some (.int x14), some (.long x15), none, some (.long x17), none, some (.ref 104), some (.int x20), none, none, none, none, none, none] [] (jRx 105) w31) h fun w31 h => ?_
        obtain ⟨hg32, h⟩ := jgd h
        refine ev_seg (o := 10) (nL := 27) (q := 404) (xs := [(.lload 17, 2, 17, 0, .null), (.aload 12, 2, 12, 0, .null), (.iload 13, 2, 13, 0, .null), (.iaload, 1, 0, 0, .null), (.i2l, 1, 0, 0, .null), (.ladd, 1, 0, 0, .null), (.lstore 17, 2, 17, 0, .null), (.iinc 13 1, 3, 13, 0, .int 1), (.iinc 20 1, 3, 20, 0, .int 1), (.goto (-44), 3, 0, 0, .null)]) (L' := [some (.ref 2), none, some (.ref 101), some (.int x3), some (.int x4), some (.int x5), some (.long x6), none, some (.long x8), none, none, none, some (.ref 103), some (.int (x13 + 1)), some (.int x14), some (.long x15), none, some (.long (x17 + (Int32.toInt64 (w31.1 103 (Int32.toNatClampNeg x13))))), none, some (.ref 104), some (.int (x20 + 1)), none, none, none, none, none, none]) (st' := []) (w' := w31) (g := [jin x13 5]) (K := [(103, 20)]) (by decide +kernel) rfl rfl rfl hg32 (jk1 (rfl) jk0) ?_
        refine ev_mask [true, false, true, true, true, true, true, false, true, false, false, false, true, true, true, true, false, true, false, true, true, false, false, false, false, false, false] ?_
        exact ih _ _ _ _ _ _ _ _ _ _ _ _ h
      · replace h := jpos c33 h
        refine ev_seg (o := 10) (nL := 27) (q := 404) (xs := [(.goto 26, 3, 0, 0, .null), (.iinc 20 1, 3, 20, 0, .int 1), (.goto (-44), 3, 0, 0, .null)]) (L' := [some (.ref 2), none, some (.ref 101), some (.int x3), some (.int x4), some (.int x5), some (.long x6), none, some (.long x8), none, none, none, some (.ref 103), some (.int x13), some (.int x14), some (.long x15), none, some (.long x17), none, some (.ref 104), some (.int (x20 + 1)), none, none, none, none, none, none]) (st' := []) (w' := w) (g := []) (K := []) (by decide +kernel) rfl rfl rfl rfl jk0 ?_
        refine ev_mask [true, false, true, true, true, true, true, false, true, false, false, false, true, true, true, true, false, true, false, true, true, false, false, false, false, false, false] ?_
        exact ih _ _ _ _ _ _ _ _ _ _ _ _ h
def f_Law_shares_h342 (xs : Nat → Int32) (Ls : Nat) : Nat → Int32 → Int32 → Int32 → Int64 → Int64 → Int32 → Int32 → Int32 → jW → Option (Int32 × jW)
  | 0, _, _, _, _, _, _, _, _, _ => none
  | n + 1, x3, x4, x5, x6, x8, x13, x14, x15, w =>
  if x15 < x4 then
    Option.bind (f_Law_pick xs Ls (67 + x15) w) fun q35 =>
    if jal [jin x15 5, !(40 == 0)] = true then
    jlw ((jup q35.2.1 103 (Int32.toNatClampNeg x15) (q35.1 - q35.1 / 40 * 40)), q35.2.2) fun w37 =>
    if jal [jin x15 5] = true then
    if (w37.1 103 (Int32.toNatClampNeg x15)) ≤ 0 then
      (f_Law_shares_h342 xs Ls n) x3 x4 x5 x6 x8 x13 (x14 ||| 0) (x15 + 1) w37
    else
      (f_Law_shares_h342 xs Ls n) x3 x4 x5 x6 x8 x13 (x14 ||| 1) (x15 + 1) w37
    else none else none
  else
    jlw (jzr w 104) fun w16 =>
    f_Law_shares_h404 xs Ls jfu x3 x4 x5 x6 x8 x13 x14 0 0 0 w16
set_option maxRecDepth 20000 in
set_option maxHeartbeats 40000000 in
theorem t_Law_shares_h342 {l : Launch} {G : jG} (hG : jX G) {xs : Nat → Int32} {Ls : Nat} (hxs : True) (hLs : jscr G Ls xs) : ∀ (n : Nat) (x3 : Int32) (x4 : Int32) (x5 : Int32) (x6 : Int64) (x8 : Int64) (x13 : Int32) (x14 : Int32) (x15 : Int32) (w : jW) (z : (Int32 × jW)), f_Law_shares_h342 xs Ls n x3 x4 x5 x6 x8 x13 x14 x15 w = some z → Ev l G (jrm d_Law_shares 4 17) y_Law_shares (some (.int z.1), (jRx 105), z.2) 4 17 3 12 342 [some (.ref 2), some (.ref 0), some (.ref 101), some (.int x3), some (.int x4), some (.int x5), some (.long x6), none, some (.long x8), none, none, none, some (.ref 103), some (.int x13), some (.int x14), some (.int x15), none, none, none, none, none, none, none, none, none, none, none] [] (jRx 104) w := by
  intro n
  induction n with
  | zero => intro x3 x4 x5 x6 x8 x13 x14 x15 w z h; simp only [f_Law_shares_h342] at h; cases h
  | succ n ih =>
    intro x3 x4 x5 x6 x8 x13 x14 x15 w z h
    rw [f_Law_shares_h342] at h
    refine ev_seg (o := 10) (nL := 27) (q := 346) (xs := [(.iload 15, 2, 15, 0, .null), (.iload 4, 2, 4, 0, .null)]) (L' := [some (.ref 2), some (.ref 0), some (.ref 101), some (.int x3), some (.int x4), some (.int x5), some (.long x6), none, some (.long x8), none, none, none, some (.ref 103), some (.int x13), some (.int x14), some (.int x15), none, none, none, none, none, none, none, none, none, none, none]) (st' := [.int x4, .int x15]) (w' := w) (g := []) (K := []) (by decide +kernel) rfl rfl rfl rfl jk0 ?_
    refine ev_icmp_ge (off := 44) (tgt := 390) (by decide +kernel) (by decide) (fun c40 => ?_) (fun c40 => ?_)
    · replace h := jneg c40 h
      refine ev_seg (o := 10) (nL := 27) (q := 397) (xs := [(.lconst 0, 1, 0, 0, .long 0), (.lstore 15, 2, 15, 0, .null), (.lconst 0, 1, 0, 0, .long 0), (.lstore 17, 2, 17, 0, .null), (.iconst 5, 1, 0, 0, .int 5)]) (L' := [some (.ref 2), some (.ref 0), some (.ref 101), some (.int x3), some (.int x4), some (.int x5), some (.long x6), none, some (.long x8), none, none, none, some (.ref 103), some (.int x13), some (.int x14), some (.long 0), none, some (.long 0), none, none, none, none, none, none, none, none, none]) (st' := [.int 5]) (w' := w) (g := []) (K := []) (by decide +kernel) rfl rfl rfl rfl jk0 ?_
      refine ev_newx (kk := 104) (kd := 20) (ty := .int) (atype := .int) (N := 5) (by decide +kernel) rfl (by decide +kernel) (Or.inl ⟨rfl, rfl⟩) ja_int (by decide +kernel) (by decide +kernel) (Nat.le_of_ble_eq_true rfl) (Nat.le_of_ble_eq_true rfl) (Nat.le_of_ble_eq_true rfl) ?_
      refine jlw_c (P := fun w16 => Ev l G (jrm d_Law_shares 4 17) y_Law_shares (some (.int z.1), (jRx 105), z.2) 4 17 4 17 399 [some (.ref 2), some (.ref 0), some (.ref 101), some (.int x3), some (.int x4), some (.int x5), some (.long x6), none, some (.long x8), none, none, none, some (.ref 103), some (.int x13), some (.int x14), some (.long 0), none, some (.long 0), none, none, none, none, none, none, none, none, none] [.ref 104] (jRx 105) w16) h fun w16 h => ?_
      refine ev_seg (o := 10) (nL := 27) (q := 404) (xs := [(.astore 19, 2, 19, 0, .null), (.iconst 0, 1, 0, 0, .int 0), (.istore 20, 2, 20, 0, .null)]) (L' := [some (.ref 2), some (.ref 0), some (.ref 101), some (.int x3), some (.int x4), some (.int x5), some (.long x6), none, some (.long x8), none, none, none, some (.ref 103), some (.int x13), some (.int x14), some (.long 0), none, some (.long 0), none, some (.ref 104), some (.int 0), none, none, none, none, none, none]) (st' := []) (w' := w16) (g := []) (K := []) (by decide +kernel) rfl rfl rfl rfl jk0 ?_
      refine ev_mask [true, false, true, true, true, true, true, false, true, false, false, false, true, true, true, true, false, true, false, true, true, false, false, false, false, false, false] ?_
      exact t_Law_shares_h404 hG hxs hLs jfu _ _ _ _ _ _ _ _ _ _ _ _ h
    · replace h := jpos c40 h
      refine ev_seg (o := 10) (nL := 27) (q := 359) (xs := [(.aload 12, 2, 12, 0, .null), (.iload 15, 2, 15, 0, .null), (.aload_n 1, 1, 1, 0, .null), (.bipush 67, 2, 0, 0, .int 67), (.iload 15, 2, 15, 0, .null), (.iadd, 1, 0, 0, .null)]) (L' := [some (.ref 2), some (.ref 0), some (.ref 101), some (.int x3), some (.int x4), some (.int x5), some (.long x6), none, some (.long x8), none, none, none, some (.ref 103), some (.int x13), some (.int x14), some (.int x15), none, none, none, none, none, none, none, none, none, none, none]) (st' := [.int (67 + x15), .ref 0, .int x15, .ref 103]) (w' := w) (g := []) (K := []) (by decide +kernel) rfl rfl rfl rfl jk0 ?_
      obtain ⟨q35, hq35, h⟩ := jbe h
      refine ev_callS (y2 := y_Law_pick) (o := 10) (idx := 11) (d2 := d_Law_pick) (n := 2) (mc2 := 0) (ms2 := 0) (As := [.ref 0, .int (67 + x15)]) (st := [.int x15, .ref 103]) (res2 := (some (.int q35.1), (jRx 104), q35.2)) (by decide +kernel) rfl lk_10_11 mo_Law_pick ms_Law_pick ⟨Nat.le_of_ble_eq_true rfl, Nat.le_of_ble_eq_true rfl⟩ rfl rfl (Nat.le_of_ble_eq_true rfl) ⟨Nat.le_of_ble_eq_true rfl, Nat.le_of_ble_eq_true rfl⟩ hG (e_Law_pick hG (Nat.le_of_ble_eq_true rfl) hxs hLs hq35) ?_
      obtain ⟨hg36, h⟩ := jgd h
      refine ev_seg (o := 10) (nL := 27) (q := 366) (xs := [(.bipush 40, 2, 0, 0, .int 40), (.irem, 1, 0, 0, .null), (.iastore, 1, 0, 0, .null)]) (L' := [some (.ref 2), some (.ref 0), some (.ref 101), some (.int x3), some (.int x4), some (.int x5), some (.long x6), none, some (.long x8), none, none, none, some (.ref 103), some (.int x13), some (.int x14), some (.int x15), none, none, none, none, none, none, none, none, none, none, none]) (st' := []) (w' := ((jup q35.2.1 103 (Int32.toNatClampNeg x15) (q35.1 - q35.1 / 40 * 40)), q35.2.2)) (g := [jin x15 5, !(40 == 0)]) (K := [(103, 20)]) (by decide +kernel) rfl rfl rfl hg36 (jk1 (rfl) jk0) ?_
      refine jlw_c (P := fun w37 => Ev l G (jrm d_Law_shares 4 17) y_Law_shares (some (.int z.1), (jRx 105), z.2) 4 17 3 12 366 [some (.ref 2), some (.ref 0), some (.ref 101), some (.int x3), some (.int x4), some (.int x5), some (.long x6), none, some (.long x8), none, none, none, some (.ref 103), some (.int x13), some (.int x14), some (.int x15), none, none, none, none, none, none, none, none, none, none, none] [] (jRx 104) w37) h fun w37 h => ?_
      obtain ⟨hg38, h⟩ := jgd h
      refine ev_seg (o := 10) (nL := 27) (q := 373) (xs := [(.iload 14, 2, 14, 0, .null), (.aload 12, 2, 12, 0, .null), (.iload 15, 2, 15, 0, .null), (.iaload, 1, 0, 0, .null)]) (L' := [some (.ref 2), some (.ref 0), some (.ref 101), some (.int x3), some (.int x4), some (.int x5), some (.long x6), none, some (.long x8), none, none, none, some (.ref 103), some (.int x13), some (.int x14), some (.int x15), none, none, none, none, none, none, none, none, none, none, none]) (st' := [.int (w37.1 103 (Int32.toNatClampNeg x15)), .int x14]) (w' := w37) (g := [jin x15 5]) (K := [(103, 20)]) (by decide +kernel) rfl rfl rfl hg38 (jk1 (rfl) jk0) ?_
      refine ev_if_le (off := 7) (tgt := 380) (by decide +kernel) (by decide) (fun c39 => ?_) (fun c39 => ?_)
      · replace h := jpos c39 h
        refine ev_seg (o := 10) (nL := 27) (q := 342) (xs := [(.iconst 0, 1, 0, 0, .int 0), (.ior, 1, 0, 0, .null), (.istore 14, 2, 14, 0, .null), (.iinc 15 1, 3, 15, 0, .int 1), (.goto (-45), 3, 0, 0, .null)]) (L' := [some (.ref 2), some (.ref 0), some (.ref 101), some (.int x3), some (.int x4), some (.int x5), some (.long x6), none, some (.long x8), none, none, none, some (.ref 103), some (.int x13), some (.int (x14 ||| 0)), some (.int (x15 + 1)), none, none, none, none, none, none, none, none, none, none, none]) (st' := []) (w' := w37) (g := []) (K := []) (by decide +kernel) rfl rfl rfl rfl jk0 ?_
        refine ev_mask [true, true, true, true, true, true, true, false, true, false, false, false, true, true, true, true, false, false, false, false, false, false, false, false, false, false, false] ?_
        exact ih _ _ _ _ _ _ _ _ _ _ h
      · replace h := jneg c39 h
        refine ev_seg (o := 10) (nL := 27) (q := 342) (xs := [(.iconst 1, 1, 0, 0, .int 1), (.goto 4, 3, 0, 0, .null), (.ior, 1, 0, 0, .null), (.istore 14, 2, 14, 0, .null), (.iinc 15 1, 3, 15, 0, .int 1), (.goto (-45), 3, 0, 0, .null)]) (L' := [some (.ref 2), some (.ref 0), some (.ref 101), some (.int x3), some (.int x4), some (.int x5), some (.long x6), none, some (.long x8), none, none, none, some (.ref 103), some (.int x13), some (.int (x14 ||| 1)), some (.int (x15 + 1)), none, none, none, none, none, none, none, none, none, none, none]) (st' := []) (w' := w37) (g := []) (K := []) (by decide +kernel) rfl rfl rfl rfl jk0 ?_
        refine ev_mask [true, true, true, true, true, true, true, false, true, false, false, false, true, true, true, true, false, false, false, false, false, false, false, false, false, false, false] ?_
        exact ih _ _ _ _ _ _ _ _ _ _ h
def f_Law_shares_j328 (xs : Nat → Int32) (Ls : Nat) (x3 : Int32) (x4 : Int32) (x5 : Int32) (x6 : Int64) (x8 : Int64) (w : jW) : Option (Int32 × jW) :=
  jlw (jzr w 103) fun w15 =>
  f_Law_shares_h342 xs Ls jfu x3 x4 x5 x6 x8 0 0 0 w15
set_option maxRecDepth 20000 in
set_option maxHeartbeats 40000000 in
theorem t_Law_shares_j328 {l : Launch} {G : jG} (hG : jX G) {xs : Nat → Int32} {Ls : Nat} (hxs : True) (hLs : jscr G Ls xs) {x3 : Int32} {x4 : Int32} {x5 : Int32} {x6 : Int64} {x8 : Int64} {w : jW} {z : (Int32 × jW)} (h : f_Law_shares_j328 xs Ls x3 x4 x5 x6 x8 w = some z) : Ev l G (jrm d_Law_shares 4 17) y_Law_shares (some (.int z.1), (jRx 105), z.2) 4 17 2 7 328 [some (.ref 2), some (.ref 0), some (.ref 101), some (.int x3), some (.int x4), some (.int x5), some (.long x6), none, some (.long x8), none, none, none, none, none, none, none, none, none, none, none, none, none, none, none, none, none, none] [] (jRx 103) w := by
  rw [f_Law_shares_j328] at h
  refine ev_seg (o := 10) (nL := 27) (q := 329) (xs := [(.iconst 5, 1, 0, 0, .int 5)]) (L' := [some (.ref 2), some (.ref 0), some (.ref 101), some (.int x3), some (.int x4), some (.int x5), some (.long x6), none, some (.long x8), none, none, none, none, none, none, none, none, none, none, none, none, none, none, none, none, none, none]) (st' := [.int 5]) (w' := w) (g := []) (K := []) (by decide +kernel) rfl rfl rfl rfl jk0 ?_
  refine ev_newx (kk := 103) (kd := 20) (ty := .int) (atype := .int) (N := 5) (by decide +kernel) rfl (by decide +kernel) (Or.inl ⟨rfl, rfl⟩) ja_int (by decide +kernel) (by decide +kernel) (Nat.le_of_ble_eq_true rfl) (Nat.le_of_ble_eq_true rfl) (Nat.le_of_ble_eq_true rfl) ?_
  refine jlw_c (P := fun w15 => Ev l G (jrm d_Law_shares 4 17) y_Law_shares (some (.int z.1), (jRx 105), z.2) 4 17 3 12 331 [some (.ref 2), some (.ref 0), some (.ref 101), some (.int x3), some (.int x4), some (.int x5), some (.long x6), none, some (.long x8), none, none, none, none, none, none, none, none, none, none, none, none, none, none, none, none, none, none] [.ref 103] (jRx 104) w15) h fun w15 h => ?_
  refine ev_seg (o := 10) (nL := 27) (q := 342) (xs := [(.astore 12, 2, 12, 0, .null), (.iconst 0, 1, 0, 0, .int 0), (.istore 13, 2, 13, 0, .null), (.iconst 0, 1, 0, 0, .int 0), (.istore 14, 2, 14, 0, .null), (.iconst 0, 1, 0, 0, .int 0), (.istore 15, 2, 15, 0, .null)]) (L' := [some (.ref 2), some (.ref 0), some (.ref 101), some (.int x3), some (.int x4), some (.int x5), some (.long x6), none, some (.long x8), none, none, none, some (.ref 103), some (.int 0), some (.int 0), some (.int 0), none, none, none, none, none, none, none, none, none, none, none]) (st' := []) (w' := w15) (g := []) (K := []) (by decide +kernel) rfl rfl rfl rfl jk0 ?_
  refine ev_mask [true, true, true, true, true, true, true, false, true, false, false, false, true, true, true, true, false, false, false, false, false, false, false, false, false, false, false] ?_
  exact t_Law_shares_h342 hG hxs hLs jfu _ _ _ _ _ _ _ _ _ _ h
def f_Law_shares_h240 (xs : Nat → Int32) (Ls : Nat) (k116 : Int32 → Int32 → Int32 → Int64 → Int64 → Int32 → Int32 → jW → Option (Int32 × jW)) : Nat → Int32 → Int32 → Int32 → Int64 → Int64 → Int32 → Int32 → Int64 → Int64 → Int64 → Int64 → jW → Option (Int32 × jW)
  | 0, _, _, _, _, _, _, _, _, _, _, _, _ => none
  | n + 1, x3, x4, x5, x6, x8, x11, x12, x17, x19, x21, x23, w =>
  if (lg_cmp x23 0) = 0 then
    if jal [jin 0 2, !(x21 == 0)] = true then
    jlw (w.1, (jup w.2 102 (Int32.toNatClampNeg 0) (x17 / x21))) fun w50 =>
    if jal [jin 1 2, !(x21 == 0)] = true then
    jlw (w50.1, (jup w50.2 102 (Int32.toNatClampNeg 1) (x19 / x21))) fun w52 =>
    k116 x3 x4 x5 x6 x8 x11 (x12 + 1) w52
    else none else none
  else
    if jal [!(x23 == 0)] = true then
    (f_Law_shares_h240 xs Ls k116 n) x3 x4 x5 x6 x8 x11 x12 x17 x19 x23 (x21 - x21 / x23 * x23) w
    else none
set_option maxRecDepth 20000 in
set_option maxHeartbeats 40000000 in
theorem t_Law_shares_h240 {l : Launch} {G : jG} (hG : jX G) {xs : Nat → Int32} {Ls : Nat} (hxs : True) (hLs : jscr G Ls xs) {k116 : Int32 → Int32 → Int32 → Int64 → Int64 → Int32 → Int32 → jW → Option (Int32 × jW)} (hk116 : ∀ (x3 : Int32) (x4 : Int32) (x5 : Int32) (x6 : Int64) (x8 : Int64) (x11 : Int32) (x12 : Int32) (w : jW) (z : (Int32 × jW)), k116 x3 x4 x5 x6 x8 x11 x12 w = some z → Ev l G (jrm d_Law_shares 4 17) y_Law_shares (some (.int z.1), (jRx 105), z.2) 4 17 2 7 116 [some (.ref 2), some (.ref 0), some (.ref 101), some (.int x3), some (.int x4), some (.int x5), some (.long x6), none, some (.long x8), none, some (.ref 102), some (.int x11), some (.int x12), none, none, none, none, none, none, none, none, none, none, none, none, none, none] [] (jRx 103) w) : ∀ (n : Nat) (x3 : Int32) (x4 : Int32) (x5 : Int32) (x6 : Int64) (x8 : Int64) (x11 : Int32) (x12 : Int32) (x17 : Int64) (x19 : Int64) (x21 : Int64) (x23 : Int64) (w : jW) (z : (Int32 × jW)), f_Law_shares_h240 xs Ls k116 n x3 x4 x5 x6 x8 x11 x12 x17 x19 x21 x23 w = some z → Ev l G (jrm d_Law_shares 4 17) y_Law_shares (some (.int z.1), (jRx 105), z.2) 4 17 2 7 240 [some (.ref 2), some (.ref 0), some (.ref 101), some (.int x3), some (.int x4), some (.int x5), some (.long x6), none, some (.long x8), none, some (.ref 102), some (.int x11), some (.int x12), none, none, none, none, some (.long x17), none, some (.long x19), none, some (.long x21), none, some (.long x23), none, none, none] [] (jRx 103) w := by
  intro n
  induction n with
  | zero => intro x3 x4 x5 x6 x8 x11 x12 x17 x19 x21 x23 w z h; simp only [f_Law_shares_h240] at h; cases h
  | succ n ih =>
    intro x3 x4 x5 x6 x8 x11 x12 x17 x19 x21 x23 w z h
    rw [f_Law_shares_h240] at h
    refine ev_seg (o := 10) (nL := 27) (q := 244) (xs := [(.lload 23, 2, 23, 0, .null), (.lconst 0, 1, 0, 0, .long 0), (.lcmp, 1, 0, 0, .null)]) (L' := [some (.ref 2), some (.ref 0), some (.ref 101), some (.int x3), some (.int x4), some (.int x5), some (.long x6), none, some (.long x8), none, some (.ref 102), some (.int x11), some (.int x12), none, none, none, none, some (.long x17), none, some (.long x19), none, some (.long x21), none, some (.long x23), none, none, none]) (st' := [.int (lg_cmp x23 0)]) (w' := w) (g := []) (K := []) (by decide +kernel) rfl rfl rfl rfl jk0 ?_
    refine ev_if_eq (off := 21) (tgt := 265) (by decide +kernel) (by decide) (fun c54 => ?_) (fun c54 => ?_)
    · replace h := jpos c54 h
      obtain ⟨hg49, h⟩ := jgd h
      refine ev_seg (o := 10) (nL := 27) (q := 274) (xs := [(.aload 10, 2, 10, 0, .null), (.iconst 0, 1, 0, 0, .int 0), (.lload 17, 2, 17, 0, .null), (.lload 21, 2, 21, 0, .null), (.ldiv, 1, 0, 0, .null), (.lastore, 1, 0, 0, .null)]) (L' := [some (.ref 2), some (.ref 0), some (.ref 101), some (.int x3), some (.int x4), some (.int x5), some (.long x6), none, some (.long x8), none, some (.ref 102), some (.int x11), some (.int x12), none, none, none, none, some (.long x17), none, some (.long x19), none, some (.long x21), none, some (.long x23), none, none, none]) (st' := []) (w' := (w.1, (jup w.2 102 (Int32.toNatClampNeg 0) (x17 / x21)))) (g := [jin 0 2, !(x21 == 0)]) (K := [(102, 22)]) (by decide +kernel) rfl rfl rfl hg49 (jk1 (rfl) jk0) ?_
      refine jlw_c (P := fun w50 => Ev l G (jrm d_Law_shares 4 17) y_Law_shares (some (.int z.1), (jRx 105), z.2) 4 17 2 7 274 [some (.ref 2), some (.ref 0), some (.ref 101), some (.int x3), some (.int x4), some (.int x5), some (.long x6), none, some (.long x8), none, some (.ref 102), some (.int x11), some (.int x12), none, none, none, none, some (.long x17), none, some (.long x19), none, some (.long x21), none, some (.long x23), none, none, none] [] (jRx 103) w50) h fun w50 h => ?_
      obtain ⟨hg51, h⟩ := jgd h
      refine ev_seg (o := 10) (nL := 27) (q := 283) (xs := [(.aload 10, 2, 10, 0, .null), (.iconst 1, 1, 0, 0, .int 1), (.lload 19, 2, 19, 0, .null), (.lload 21, 2, 21, 0, .null), (.ldiv, 1, 0, 0, .null), (.lastore, 1, 0, 0, .null)]) (L' := [some (.ref 2), some (.ref 0), some (.ref 101), some (.int x3), some (.int x4), some (.int x5), some (.long x6), none, some (.long x8), none, some (.ref 102), some (.int x11), some (.int x12), none, none, none, none, some (.long x17), none, some (.long x19), none, some (.long x21), none, some (.long x23), none, none, none]) (st' := []) (w' := (w50.1, (jup w50.2 102 (Int32.toNatClampNeg 1) (x19 / x21)))) (g := [jin 1 2, !(x21 == 0)]) (K := [(102, 22)]) (by decide +kernel) rfl rfl rfl hg51 (jk1 (rfl) jk0) ?_
      refine jlw_c (P := fun w52 => Ev l G (jrm d_Law_shares 4 17) y_Law_shares (some (.int z.1), (jRx 105), z.2) 4 17 2 7 283 [some (.ref 2), some (.ref 0), some (.ref 101), some (.int x3), some (.int x4), some (.int x5), some (.long x6), none, some (.long x8), none, some (.ref 102), some (.int x11), some (.int x12), none, none, none, none, some (.long x17), none, some (.long x19), none, some (.long x21), none, some (.long x23), none, none, none] [] (jRx 103) w52) h fun w52 h => ?_
      refine ev_seg (o := 10) (nL := 27) (q := 116) (xs := [(.iinc 12 1, 3, 12, 0, .int 1), (.goto (-170), 3, 0, 0, .null)]) (L' := [some (.ref 2), some (.ref 0), some (.ref 101), some (.int x3), some (.int x4), some (.int x5), some (.long x6), none, some (.long x8), none, some (.ref 102), some (.int x11), some (.int (x12 + 1)), none, none, none, none, some (.long x17), none, some (.long x19), none, some (.long x21), none, some (.long x23), none, none, none]) (st' := []) (w' := w52) (g := []) (K := []) (by decide +kernel) rfl rfl rfl rfl jk0 ?_
      refine ev_mask [true, true, true, true, true, true, true, false, true, false, true, true, true, false, false, false, false, false, false, false, false, false, false, false, false, false, false] ?_
      exact hk116 _ _ _ _ _ _ _ _ _ h
    · replace h := jneg c54 h
      obtain ⟨hg53, h⟩ := jgd h
      refine ev_seg (o := 10) (nL := 27) (q := 240) (xs := [(.lload 21, 2, 21, 0, .null), (.lload 23, 2, 23, 0, .null), (.lrem, 1, 0, 0, .null), (.lstore 25, 2, 25, 0, .null), (.lload 23, 2, 23, 0, .null), (.lstore 21, 2, 21, 0, .null), (.lload 25, 2, 25, 0, .null), (.lstore 23, 2, 23, 0, .null), (.goto (-22), 3, 0, 0, .null)]) (L' := [some (.ref 2), some (.ref 0), some (.ref 101), some (.int x3), some (.int x4), some (.int x5), some (.long x6), none, some (.long x8), none, some (.ref 102), some (.int x11), some (.int x12), none, none, none, none, some (.long x17), none, some (.long x19), none, some (.long x23), none, some (.long (x21 - x21 / x23 * x23)), none, some (.long (x21 - x21 / x23 * x23)), none]) (st' := []) (w' := w) (g := [!(x23 == 0)]) (K := []) (by decide +kernel) rfl rfl rfl hg53 jk0 ?_
      refine ev_mask [true, true, true, true, true, true, true, false, true, false, true, true, true, false, false, false, false, true, false, true, false, true, false, true, false, false, false] ?_
      exact ih _ _ _ _ _ _ _ _ _ _ _ _ _ h
def f_Law_shares_j203 (xs : Nat → Int32) (Ls : Nat) (k116 : Int32 → Int32 → Int32 → Int64 → Int64 → Int32 → Int32 → jW → Option (Int32 × jW)) (x3 : Int32) (x4 : Int32) (x5 : Int32) (x6 : Int64) (x8 : Int64) (x12 : Int32) (x13 : Int64) (x15 : Int64) (s0 : Int32) (s1 : Int32) (w : jW) : Option (Int32 × jW) :=
  if jal [jin 1 2, jin 1 2, jin 0 2] = true then
  f_Law_shares_h240 xs Ls k116 jfu x3 x4 x5 x6 x8 (s1 ||| s0) x12 (((w.2 102 (Int32.toNatClampNeg 0)) * x15) + (x13 * (w.2 102 (Int32.toNatClampNeg 1)))) ((w.2 102 (Int32.toNatClampNeg 1)) * x15) (((w.2 102 (Int32.toNatClampNeg 0)) * x15) + (x13 * (w.2 102 (Int32.toNatClampNeg 1)))) ((w.2 102 (Int32.toNatClampNeg 1)) * x15) w
  else none
set_option maxRecDepth 20000 in
set_option maxHeartbeats 40000000 in
theorem t_Law_shares_j203 {l : Launch} {G : jG} (hG : jX G) {xs : Nat → Int32} {Ls : Nat} (hxs : True) (hLs : jscr G Ls xs) {k116 : Int32 → Int32 → Int32 → Int64 → Int64 → Int32 → Int32 → jW → Option (Int32 × jW)} (hk116 : ∀ (x3 : Int32) (x4 : Int32) (x5 : Int32) (x6 : Int64) (x8 : Int64) (x11 : Int32) (x12 : Int32) (w : jW) (z : (Int32 × jW)), k116 x3 x4 x5 x6 x8 x11 x12 w = some z → Ev l G (jrm d_Law_shares 4 17) y_Law_shares (some (.int z.1), (jRx 105), z.2) 4 17 2 7 116 [some (.ref 2), some (.ref 0), some (.ref 101), some (.int x3), some (.int x4), some (.int x5), some (.long x6), none, some (.long x8), none, some (.ref 102), some (.int x11), some (.int x12), none, none, none, none, none, none, none, none, none, none, none, none, none, none] [] (jRx 103) w) {x3 : Int32} {x4 : Int32} {x5 : Int32} {x6 : Int64} {x8 : Int64} {x12 : Int32} {x13 : Int64} {x15 : Int64} {s0 : Int32} {s1 : Int32} {w : jW} {z : (Int32 × jW)} (h : f_Law_shares_j203 xs Ls k116 x3 x4 x5 x6 x8 x12 x13 x15 s0 s1 w = some z) : Ev l G (jrm d_Law_shares 4 17) y_Law_shares (some (.int z.1), (jRx 105), z.2) 4 17 2 7 203 [some (.ref 2), some (.ref 0), some (.ref 101), some (.int x3), some (.int x4), some (.int x5), some (.long x6), none, some (.long x8), none, some (.ref 102), none, some (.int x12), some (.long x13), none, some (.long x15), none, none, none, none, none, none, none, none, none, none, none] [.int s0, .int s1] (jRx 103) w := by
  rw [f_Law_shares_j203] at h
  obtain ⟨hg48, h⟩ := jgd h
  refine ev_seg (o := 10) (nL := 27) (q := 240) (xs := [(.ior, 1, 0, 0, .null), (.istore 11, 2, 11, 0, .null), (.aload 10, 2, 10, 0, .null), (.iconst 0, 1, 0, 0, .int 0), (.laload, 1, 0, 0, .null), (.lload 15, 2, 15, 0, .null), (.lmul, 1, 0, 0, .null), (.lload 13, 2, 13, 0, .null), (.aload 10, 2, 10, 0, .null), (.iconst 1, 1, 0, 0, .int 1), (.laload, 1, 0, 0, .null), (.lmul, 1, 0, 0, .null), (.ladd, 1, 0, 0, .null), (.lstore 17, 2, 17, 0, .null), (.aload 10, 2, 10, 0, .null), (.iconst 1, 1, 0, 0, .int 1), (.laload, 1, 0, 0, .null), (.lload 15, 2, 15, 0, .null), (.lmul, 1, 0, 0, .null), (.lstore 19, 2, 19, 0, .null), (.lload 17, 2, 17, 0, .null), (.lstore 21, 2, 21, 0, .null), (.lload 19, 2, 19, 0, .null), (.lstore 23, 2, 23, 0, .null)]) (L' := [some (.ref 2), some (.ref 0), some (.ref 101), some (.int x3), some (.int x4), some (.int x5), some (.long x6), none, some (.long x8), none, some (.ref 102), some (.int (s1 ||| s0)), some (.int x12), some (.long x13), none, some (.long x15), none, some (.long (((w.2 102 (Int32.toNatClampNeg 0)) * x15) + (x13 * (w.2 102 (Int32.toNatClampNeg 1))))), none, some (.long ((w.2 102 (Int32.toNatClampNeg 1)) * x15)), none, some (.long (((w.2 102 (Int32.toNatClampNeg 0)) * x15) + (x13 * (w.2 102 (Int32.toNatClampNeg 1))))), none, some (.long ((w.2 102 (Int32.toNatClampNeg 1)) * x15)), none, none, none]) (st' := []) (w' := w) (g := [jin 1 2, jin 1 2, jin 0 2]) (K := [(102, 22), (102, 22), (102, 22)]) (by decide +kernel) rfl rfl rfl hg48 (jk1 (rfl) (jk1 (rfl) (jk1 (rfl) jk0))) ?_
  refine ev_mask [true, true, true, true, true, true, true, false, true, false, true, true, true, false, false, false, false, true, false, true, false, true, false, true, false, false, false] ?_
  exact t_Law_shares_h240 hG hxs hLs hk116 jfu _ _ _ _ _ _ _ _ _ _ _ _ _ h
def f_Law_shares_h116 (xs : Nat → Int32) (Ls : Nat) : Nat → Int32 → Int32 → Int32 → Int64 → Int64 → Int32 → Int32 → jW → Option (Int32 × jW)
  | 0, _, _, _, _, _, _, _, _ => none
  | n + 1, x3, x4, x5, x6, x8, x11, x12, w =>
  if x12 < 5 then
    if ((x3 >>> (x12 &&& 31)) &&& 1) = 0 then
      (f_Law_shares_h116 xs Ls n) x3 x4 x5 x6 x8 x11 (x12 + 1) w
    else
      Option.bind (f_Count_share x3 x5 x12 0 w) fun q45 =>
      Option.bind (f_Count_share x3 x5 x12 1 q45.2) fun q46 =>
      if (lg_cmp q45.1 q46.1) ≤ 0 then
        if jal [jin x12 5] = true then
        if (lg_cmp ((q45.1 * x8) * (Int32.toInt64 (q46.2.1 101 (Int32.toNatClampNeg x12)))) (x6 * q46.1)) = 0 then
          if (lg_cmp q45.1 q46.1) = 0 then
            f_Law_shares_j203 xs Ls (f_Law_shares_h116 xs Ls n) x3 x4 x5 x6 x8 x12 q45.1 q46.1 1 x11 q46.2
          else
            f_Law_shares_j203 xs Ls (f_Law_shares_h116 xs Ls n) x3 x4 x5 x6 x8 x12 q45.1 q46.1 0 x11 q46.2
        else
          none
        else none
      else
        none
  else
    if jal [jin 1 2, jin 0 2] = true then
    if (lg_cmp (w.2 102 (Int32.toNatClampNeg 0)) ((Int32.toInt64 x5) * (w.2 102 (Int32.toNatClampNeg 1)))) ≤ 0 then
      if x11 = 0 then
        if jal [jin 1 2, jin 0 2] = true then
        if (lg_cmp (w.2 102 (Int32.toNatClampNeg 0)) ((Int32.toInt64 x5) * (w.2 102 (Int32.toNatClampNeg 1)))) = 0 then
          f_Law_shares_j328 xs Ls x3 x4 x5 x6 x8 w
        else
          none
        else none
      else
        f_Law_shares_j328 xs Ls x3 x4 x5 x6 x8 w
    else
      none
    else none
set_option maxRecDepth 20000 in
set_option maxHeartbeats 40000000 in
theorem t_Law_shares_h116 {l : Launch} {G : jG} (hG : jX G) {xs : Nat → Int32} {Ls : Nat} (hxs : True) (hLs : jscr G Ls xs) : ∀ (n : Nat) (x3 : Int32) (x4 : Int32) (x5 : Int32) (x6 : Int64) (x8 : Int64) (x11 : Int32) (x12 : Int32) (w : jW) (z : (Int32 × jW)), f_Law_shares_h116 xs Ls n x3 x4 x5 x6 x8 x11 x12 w = some z → Ev l G (jrm d_Law_shares 4 17) y_Law_shares (some (.int z.1), (jRx 105), z.2) 4 17 2 7 116 [some (.ref 2), some (.ref 0), some (.ref 101), some (.int x3), some (.int x4), some (.int x5), some (.long x6), none, some (.long x8), none, some (.ref 102), some (.int x11), some (.int x12), none, none, none, none, none, none, none, none, none, none, none, none, none, none] [] (jRx 103) w := by
  intro n
  induction n with
  | zero => intro x3 x4 x5 x6 x8 x11 x12 w z h; simp only [f_Law_shares_h116] at h; cases h
  | succ n ih =>
    intro x3 x4 x5 x6 x8 x11 x12 w z h
    rw [f_Law_shares_h116] at h
    refine ev_seg (o := 10) (nL := 27) (q := 119) (xs := [(.iload 12, 2, 12, 0, .null), (.iconst 5, 1, 0, 0, .int 5)]) (L' := [some (.ref 2), some (.ref 0), some (.ref 101), some (.int x3), some (.int x4), some (.int x5), some (.long x6), none, some (.long x8), none, some (.ref 102), some (.int x11), some (.int x12), none, none, none, none, none, none, none, none, none, none, none, none, none, none]) (st' := [.int 5, .int x12]) (w' := w) (g := []) (K := []) (by decide +kernel) rfl rfl rfl rfl jk0 ?_
    refine ev_icmp_ge (off := 170) (tgt := 289) (by decide +kernel) (by decide) (fun c59 => ?_) (fun c59 => ?_)
    · replace h := jneg c59 h
      obtain ⟨hg14, h⟩ := jgd h
      refine ev_seg (o := 10) (nL := 27) (q := 302) (xs := [(.aload 10, 2, 10, 0, .null), (.iconst 0, 1, 0, 0, .int 0), (.laload, 1, 0, 0, .null), (.iload 5, 2, 5, 0, .null), (.i2l, 1, 0, 0, .null), (.aload 10, 2, 10, 0, .null), (.iconst 1, 1, 0, 0, .int 1), (.laload, 1, 0, 0, .null), (.lmul, 1, 0, 0, .null), (.lcmp, 1, 0, 0, .null)]) (L' := [some (.ref 2), some (.ref 0), some (.ref 101), some (.int x3), some (.int x4), some (.int x5), some (.long x6), none, some (.long x8), none, some (.ref 102), some (.int x11), some (.int x12), none, none, none, none, none, none, none, none, none, none, none, none, none, none]) (st' := [.int (lg_cmp (w.2 102 (Int32.toNatClampNeg 0)) ((Int32.toInt64 x5) * (w.2 102 (Int32.toNatClampNeg 1))))]) (w' := w) (g := [jin 1 2, jin 0 2]) (K := [(102, 22), (102, 22)]) (by decide +kernel) rfl rfl rfl hg14 (jk1 (rfl) (jk1 (rfl) jk0)) ?_
      refine ev_if_gt (off := 24) (tgt := 326) (by decide +kernel) (by decide) (fun c44 => ?_) (fun c44 => ?_)
      · replace h := jneg c44 h
        cases h
      · replace h := jpos c44 h
        refine ev_seg (o := 10) (nL := 27) (q := 307) (xs := [(.iload 11, 2, 11, 0, .null)]) (L' := [some (.ref 2), some (.ref 0), some (.ref 101), some (.int x3), some (.int x4), some (.int x5), some (.long x6), none, some (.long x8), none, some (.ref 102), some (.int x11), some (.int x12), none, none, none, none, none, none, none, none, none, none, none, none, none, none]) (st' := [.int x11]) (w' := w) (g := []) (K := []) (by decide +kernel) rfl rfl rfl rfl jk0 ?_
        refine ev_if_ne (off := 21) (tgt := 328) (by decide +kernel) (by decide) (fun c43 => ?_) (fun c43 => ?_)
        · replace h := jneg c43 h
          refine ev_mask [true, true, true, true, true, true, true, false, true, false, false, false, false, false, false, false, false, false, false, false, false, false, false, false, false, false, false] ?_
          exact t_Law_shares_j328 hG hxs hLs h
        · replace h := jpos c43 h
          obtain ⟨hg41, h⟩ := jgd h
          refine ev_seg (o := 10) (nL := 27) (q := 323) (xs := [(.aload 10, 2, 10, 0, .null), (.iconst 0, 1, 0, 0, .int 0), (.laload, 1, 0, 0, .null), (.iload 5, 2, 5, 0, .null), (.i2l, 1, 0, 0, .null), (.aload 10, 2, 10, 0, .null), (.iconst 1, 1, 0, 0, .int 1), (.laload, 1, 0, 0, .null), (.lmul, 1, 0, 0, .null), (.lcmp, 1, 0, 0, .null)]) (L' := [some (.ref 2), some (.ref 0), some (.ref 101), some (.int x3), some (.int x4), some (.int x5), some (.long x6), none, some (.long x8), none, some (.ref 102), some (.int x11), some (.int x12), none, none, none, none, none, none, none, none, none, none, none, none, none, none]) (st' := [.int (lg_cmp (w.2 102 (Int32.toNatClampNeg 0)) ((Int32.toInt64 x5) * (w.2 102 (Int32.toNatClampNeg 1))))]) (w' := w) (g := [jin 1 2, jin 0 2]) (K := [(102, 22), (102, 22)]) (by decide +kernel) rfl rfl rfl hg41 (jk1 (rfl) (jk1 (rfl) jk0)) ?_
          refine ev_if_eq (off := 5) (tgt := 328) (by decide +kernel) (by decide) (fun c42 => ?_) (fun c42 => ?_)
          · replace h := jpos c42 h
            refine ev_mask [true, true, true, true, true, true, true, false, true, false, false, false, false, false, false, false, false, false, false, false, false, false, false, false, false, false, false] ?_
            exact t_Law_shares_j328 hG hxs hLs h
          · replace h := jneg c42 h
            cases h
    · replace h := jpos c59 h
      refine ev_seg (o := 10) (nL := 27) (q := 128) (xs := [(.iload_n 3, 1, 3, 0, .null), (.iload 12, 2, 12, 0, .null), (.ishr, 1, 0, 0, .null), (.iconst 1, 1, 0, 0, .int 1), (.iand, 1, 0, 0, .null)]) (L' := [some (.ref 2), some (.ref 0), some (.ref 101), some (.int x3), some (.int x4), some (.int x5), some (.long x6), none, some (.long x8), none, some (.ref 102), some (.int x11), some (.int x12), none, none, none, none, none, none, none, none, none, none, none, none, none, none]) (st' := [.int ((x3 >>> (x12 &&& 31)) &&& 1)]) (w' := w) (g := []) (K := []) (by decide +kernel) rfl rfl rfl rfl jk0 ?_
      refine ev_if_ne (off := 6) (tgt := 134) (by decide +kernel) (by decide) (fun c58 => ?_) (fun c58 => ?_)
      · replace h := jneg c58 h
        refine ev_seg (o := 10) (nL := 27) (q := 141) (xs := [(.aload_n 0, 1, 0, 0, .null), (.iload_n 3, 1, 3, 0, .null), (.iload 5, 2, 5, 0, .null), (.iload 12, 2, 12, 0, .null), (.iconst 0, 1, 0, 0, .int 0)]) (L' := [some (.ref 2), some (.ref 0), some (.ref 101), some (.int x3), some (.int x4), some (.int x5), some (.long x6), none, some (.long x8), none, some (.ref 102), some (.int x11), some (.int x12), none, none, none, none, none, none, none, none, none, none, none, none, none, none]) (st' := [.int 0, .int x12, .int x5, .int x3, .ref 2]) (w' := w) (g := []) (K := []) (by decide +kernel) rfl rfl rfl rfl jk0 ?_
        obtain ⟨q45, hq45, h⟩ := jbe h
        refine ev_callV (ci := 9) (a := 2) (y2 := y_Count_share) (o := 10) (idx := 119) (d2 := d_Count_share) (n := 4) (mc2 := 0) (ms2 := 0) (As := [.int x3, .int x5, .int x12, .int 0]) (st := []) (res2 := (some (.long q45.1), (jRx 103), q45.2)) (by decide +kernel) rfl lk_10_119 mo_Count_share mv_Count_share ⟨Nat.le_of_ble_eq_true rfl, Nat.le_of_ble_eq_true rfl⟩ rfl rfl (kz_2 (Nat.le_of_ble_eq_true rfl)) (by decide) rfl (Nat.le_of_ble_eq_true rfl) ⟨Nat.le_of_ble_eq_true rfl, Nat.le_of_ble_eq_true rfl⟩ hG (e_Count_share hG (Nat.le_of_ble_eq_true rfl) hq45) ?_
        refine ev_seg (o := 10) (nL := 27) (q := 153) (xs := [(.lstore 13, 2, 13, 0, .null), (.aload_n 0, 1, 0, 0, .null), (.iload_n 3, 1, 3, 0, .null), (.iload 5, 2, 5, 0, .null), (.iload 12, 2, 12, 0, .null), (.iconst 1, 1, 0, 0, .int 1)]) (L' := [some (.ref 2), some (.ref 0), some (.ref 101), some (.int x3), some (.int x4), some (.int x5), some (.long x6), none, some (.long x8), none, some (.ref 102), some (.int x11), some (.int x12), some (.long q45.1), none, none, none, none, none, none, none, none, none, none, none, none, none]) (st' := [.int 1, .int x12, .int x5, .int x3, .ref 2]) (w' := q45.2) (g := []) (K := []) (by decide +kernel) rfl rfl rfl rfl jk0 ?_
        obtain ⟨q46, hq46, h⟩ := jbe h
        refine ev_callV (ci := 9) (a := 2) (y2 := y_Count_share) (o := 10) (idx := 119) (d2 := d_Count_share) (n := 4) (mc2 := 0) (ms2 := 0) (As := [.int x3, .int x5, .int x12, .int 1]) (st := []) (res2 := (some (.long q46.1), (jRx 103), q46.2)) (by decide +kernel) rfl lk_10_119 mo_Count_share mv_Count_share ⟨Nat.le_of_ble_eq_true rfl, Nat.le_of_ble_eq_true rfl⟩ rfl rfl (kz_2 (Nat.le_of_ble_eq_true rfl)) (by decide) rfl (Nat.le_of_ble_eq_true rfl) ⟨Nat.le_of_ble_eq_true rfl, Nat.le_of_ble_eq_true rfl⟩ hG (e_Count_share hG (Nat.le_of_ble_eq_true rfl) hq46) ?_
        refine ev_seg (o := 10) (nL := 27) (q := 163) (xs := [(.lstore 15, 2, 15, 0, .null), (.lload 13, 2, 13, 0, .null), (.lload 15, 2, 15, 0, .null), (.lcmp, 1, 0, 0, .null)]) (L' := [some (.ref 2), some (.ref 0), some (.ref 101), some (.int x3), some (.int x4), some (.int x5), some (.long x6), none, some (.long x8), none, some (.ref 102), some (.int x11), some (.int x12), some (.long q45.1), none, some (.long q46.1), none, none, none, none, none, none, none, none, none, none, none]) (st' := [.int (lg_cmp q45.1 q46.1)]) (w' := q46.2) (g := []) (K := []) (by decide +kernel) rfl rfl rfl rfl jk0 ?_
        refine ev_if_gt (off := 23) (tgt := 186) (by decide +kernel) (by decide) (fun c57 => ?_) (fun c57 => ?_)
        · replace h := jneg c57 h
          cases h
        · replace h := jpos c57 h
          obtain ⟨hg47, h⟩ := jgd h
          refine ev_seg (o := 10) (nL := 27) (q := 183) (xs := [(.lload 13, 2, 13, 0, .null), (.lload 8, 2, 8, 0, .null), (.lmul, 1, 0, 0, .null), (.aload_n 2, 1, 2, 0, .null), (.iload 12, 2, 12, 0, .null), (.iaload, 1, 0, 0, .null), (.i2l, 1, 0, 0, .null), (.lmul, 1, 0, 0, .null), (.lload 6, 2, 6, 0, .null), (.lload 15, 2, 15, 0, .null), (.lmul, 1, 0, 0, .null), (.lcmp, 1, 0, 0, .null)]) (L' := [some (.ref 2), some (.ref 0), some (.ref 101), some (.int x3), some (.int x4), some (.int x5), some (.long x6), none, some (.long x8), none, some (.ref 102), some (.int x11), some (.int x12), some (.long q45.1), none, some (.long q46.1), none, none, none, none, none, none, none, none, none, none, none]) (st' := [.int (lg_cmp ((q45.1 * x8) * (Int32.toInt64 (q46.2.1 101 (Int32.toNatClampNeg x12)))) (x6 * q46.1))]) (w' := q46.2) (g := [jin x12 5]) (K := [(101, 20)]) (by decide +kernel) rfl rfl rfl hg47 (jk1 (rfl) jk0) ?_
          refine ev_if_eq (off := 5) (tgt := 188) (by decide +kernel) (by decide) (fun c56 => ?_) (fun c56 => ?_)
          · replace h := jpos c56 h
            refine ev_seg (o := 10) (nL := 27) (q := 195) (xs := [(.iload 11, 2, 11, 0, .null), (.lload 13, 2, 13, 0, .null), (.lload 15, 2, 15, 0, .null), (.lcmp, 1, 0, 0, .null)]) (L' := [some (.ref 2), some (.ref 0), some (.ref 101), some (.int x3), some (.int x4), some (.int x5), some (.long x6), none, some (.long x8), none, some (.ref 102), some (.int x11), some (.int x12), some (.long q45.1), none, some (.long q46.1), none, none, none, none, none, none, none, none, none, none, none]) (st' := [.int (lg_cmp q45.1 q46.1), .int x11]) (w' := q46.2) (g := []) (K := []) (by decide +kernel) rfl rfl rfl rfl jk0 ?_
            refine ev_if_ne (off := 7) (tgt := 202) (by decide +kernel) (by decide) (fun c55 => ?_) (fun c55 => ?_)
            · replace h := jneg c55 h
              refine ev_seg (o := 10) (nL := 27) (q := 203) (xs := [(.iconst 0, 1, 0, 0, .int 0)]) (L' := [some (.ref 2), some (.ref 0), some (.ref 101), some (.int x3), some (.int x4), some (.int x5), some (.long x6), none, some (.long x8), none, some (.ref 102), some (.int x11), some (.int x12), some (.long q45.1), none, some (.long q46.1), none, none, none, none, none, none, none, none, none, none, none]) (st' := [.int 0, .int x11]) (w' := q46.2) (g := []) (K := []) (by decide +kernel) rfl rfl rfl rfl jk0 ?_
              refine ev_mask [true, true, true, true, true, true, true, false, true, false, true, false, true, true, false, true, false, false, false, false, false, false, false, false, false, false, false] ?_
              exact t_Law_shares_j203 hG hxs hLs ih h
            · replace h := jpos c55 h
              refine ev_seg (o := 10) (nL := 27) (q := 203) (xs := [(.iconst 1, 1, 0, 0, .int 1), (.goto 4, 3, 0, 0, .null)]) (L' := [some (.ref 2), some (.ref 0), some (.ref 101), some (.int x3), some (.int x4), some (.int x5), some (.long x6), none, some (.long x8), none, some (.ref 102), some (.int x11), some (.int x12), some (.long q45.1), none, some (.long q46.1), none, none, none, none, none, none, none, none, none, none, none]) (st' := [.int 1, .int x11]) (w' := q46.2) (g := []) (K := []) (by decide +kernel) rfl rfl rfl rfl jk0 ?_
              refine ev_mask [true, true, true, true, true, true, true, false, true, false, true, false, true, true, false, true, false, false, false, false, false, false, false, false, false, false, false] ?_
              exact t_Law_shares_j203 hG hxs hLs ih h
          · replace h := jneg c56 h
            cases h
      · replace h := jpos c58 h
        refine ev_seg (o := 10) (nL := 27) (q := 116) (xs := [(.goto 152, 3, 0, 0, .null), (.iinc 12 1, 3, 12, 0, .int 1), (.goto (-170), 3, 0, 0, .null)]) (L' := [some (.ref 2), some (.ref 0), some (.ref 101), some (.int x3), some (.int x4), some (.int x5), some (.long x6), none, some (.long x8), none, some (.ref 102), some (.int x11), some (.int (x12 + 1)), none, none, none, none, none, none, none, none, none, none, none, none, none, none]) (st' := []) (w' := w) (g := []) (K := []) (by decide +kernel) rfl rfl rfl rfl jk0 ?_
        refine ev_mask [true, true, true, true, true, true, true, false, true, false, true, true, true, false, false, false, false, false, false, false, false, false, false, false, false, false, false] ?_
        exact ih _ _ _ _ _ _ _ _ _ h
def f_Law_shares_h6 (xs : Nat → Int32) (Ls : Nat) : Nat → Int32 → jW → Option (Int32 × jW)
  | 0, _, _ => none
  | n + 1, x3, w =>
  if x3 < 5 then
    Option.bind (f_Law_pick xs Ls (60 + x3) w) fun q60 =>
    if jal [jin x3 5, !(50 == 0)] = true then
    jlw ((jup q60.2.1 101 (Int32.toNatClampNeg x3) (1 + (q60.1 - q60.1 / 50 * 50))), q60.2.2) fun w62 =>
    if jal [jin x3 5] = true then
    Option.bind (f_Count_chance x3 (w62.1 101 (Int32.toNatClampNeg x3)) w62) fun q64 =>
    if q64.1 = 0 then
      none
    else
      (f_Law_shares_h6 xs Ls n) (x3 + 1) q64.2
    else none else none
  else
    Option.bind (f_Law_pick xs Ls 65 w) fun q2 =>
    if jal [!(31 == 0)] = true then
    Option.bind (f_Intg_bitCount (1 + (q2.1 - q2.1 / 31 * 31)) q2.2) fun q4 =>
    Option.bind (f_Law_pick xs Ls 66 q4.2) fun q5 =>
    if jal [!(q4.1 == 0)] = true then
    Option.bind (f_Count_value (1 + (q2.1 - q2.1 / 31 * 31)) (1 + (q5.1 - q5.1 / q4.1 * q4.1)) 0 q5.2) fun q7 =>
    Option.bind (f_Count_value (1 + (q2.1 - q2.1 / 31 * 31)) (1 + (q5.1 - q5.1 / q4.1 * q4.1)) 1 q7.2) fun q8 =>
    jlw (jzr q8.2 102) fun w9 =>
    if jal [jin 0 2] = true then
    jlw (w9.1, (jup w9.2 102 (Int32.toNatClampNeg 0) 0)) fun w11 =>
    if jal [jin 1 2] = true then
    jlw (w11.1, (jup w11.2 102 (Int32.toNatClampNeg 1) 1)) fun w13 =>
    f_Law_shares_h116 xs Ls jfu (1 + (q2.1 - q2.1 / 31 * 31)) q4.1 (1 + (q5.1 - q5.1 / q4.1 * q4.1)) q7.1 q8.1 0 0 w13
    else none else none
    else none
    else none
set_option maxRecDepth 20000 in
set_option maxHeartbeats 40000000 in
theorem t_Law_shares_h6 {l : Launch} {G : jG} (hG : jX G) {xs : Nat → Int32} {Ls : Nat} (hxs : True) (hLs : jscr G Ls xs) : ∀ (n : Nat) (x3 : Int32) (w : jW) (z : (Int32 × jW)), f_Law_shares_h6 xs Ls n x3 w = some z → Ev l G (jrm d_Law_shares 4 17) y_Law_shares (some (.int z.1), (jRx 105), z.2) 4 17 1 5 6 [some (.ref 2), some (.ref 0), some (.ref 101), some (.int x3), none, none, none, none, none, none, none, none, none, none, none, none, none, none, none, none, none, none, none, none, none, none, none] [] (jRx 102) w := by
  intro n
  induction n with
  | zero => intro x3 w z h; simp only [f_Law_shares_h6] at h; cases h
  | succ n ih =>
    intro x3 w z h
    rw [f_Law_shares_h6] at h
    refine ev_seg (o := 10) (nL := 27) (q := 8) (xs := [(.iload_n 3, 1, 3, 0, .null), (.iconst 5, 1, 0, 0, .int 5)]) (L' := [some (.ref 2), some (.ref 0), some (.ref 101), some (.int x3), none, none, none, none, none, none, none, none, none, none, none, none, none, none, none, none, none, none, none, none, none, none, none]) (st' := [.int 5, .int x3]) (w' := w) (g := []) (K := []) (by decide +kernel) rfl rfl rfl rfl jk0 ?_
    refine ev_icmp_ge (off := 38) (tgt := 46) (by decide +kernel) (by decide) (fun c66 => ?_) (fun c66 => ?_)
    · replace h := jneg c66 h
      refine ev_seg (o := 10) (nL := 27) (q := 50) (xs := [(.iconst 1, 1, 0, 0, .int 1), (.aload_n 1, 1, 1, 0, .null), (.bipush 65, 2, 0, 0, .int 65)]) (L' := [some (.ref 2), some (.ref 0), some (.ref 101), some (.int x3), none, none, none, none, none, none, none, none, none, none, none, none, none, none, none, none, none, none, none, none, none, none, none]) (st' := [.int 65, .ref 0, .int 1]) (w' := w) (g := []) (K := []) (by decide +kernel) rfl rfl rfl rfl jk0 ?_
      obtain ⟨q2, hq2, h⟩ := jbe h
      refine ev_callS (y2 := y_Law_pick) (o := 10) (idx := 11) (d2 := d_Law_pick) (n := 2) (mc2 := 0) (ms2 := 0) (As := [.ref 0, .int 65]) (st := [.int 1]) (res2 := (some (.int q2.1), (jRx 102), q2.2)) (by decide +kernel) rfl lk_10_11 mo_Law_pick ms_Law_pick ⟨Nat.le_of_ble_eq_true rfl, Nat.le_of_ble_eq_true rfl⟩ rfl rfl (Nat.le_of_ble_eq_true rfl) ⟨Nat.le_of_ble_eq_true rfl, Nat.le_of_ble_eq_true rfl⟩ hG (e_Law_pick hG (Nat.le_of_ble_eq_true rfl) hxs hLs hq2) ?_
      obtain ⟨hg3, h⟩ := jgd h
      refine ev_seg (o := 10) (nL := 27) (q := 59) (xs := [(.bipush 31, 2, 0, 0, .int 31), (.irem, 1, 0, 0, .null), (.iadd, 1, 0, 0, .null), (.istore_n 3, 1, 3, 0, .null), (.iload_n 3, 1, 3, 0, .null)]) (L' := [some (.ref 2), some (.ref 0), some (.ref 101), some (.int (1 + (q2.1 - q2.1 / 31 * 31))), none, none, none, none, none, none, none, none, none, none, none, none, none, none, none, none, none, none, none, none, none, none, none]) (st' := [.int (1 + (q2.1 - q2.1 / 31 * 31))]) (w' := q2.2) (g := [!(31 == 0)]) (K := []) (by decide +kernel) rfl rfl rfl hg3 jk0 ?_
      obtain ⟨q4, hq4, h⟩ := jbe h
      refine ev_callS (y2 := y_Intg_bitCount) (o := 10) (idx := 110) (d2 := d_Intg_bitCount) (n := 1) (mc2 := 0) (ms2 := 0) (As := [.int (1 + (q2.1 - q2.1 / 31 * 31))]) (st := []) (res2 := (some (.int q4.1), (jRx 102), q4.2)) (by decide +kernel) rfl lk_10_110 mo_Intg_bitCount ms_Intg_bitCount ⟨Nat.le_of_ble_eq_true rfl, Nat.le_of_ble_eq_true rfl⟩ rfl rfl (Nat.le_of_ble_eq_true rfl) ⟨Nat.le_of_ble_eq_true rfl, Nat.le_of_ble_eq_true rfl⟩ hG (e_Intg_bitCount hG (Nat.le_of_ble_eq_true rfl) hq4) ?_
      refine ev_seg (o := 10) (nL := 27) (q := 68) (xs := [(.istore 4, 2, 4, 0, .null), (.iconst 1, 1, 0, 0, .int 1), (.aload_n 1, 1, 1, 0, .null), (.bipush 66, 2, 0, 0, .int 66)]) (L' := [some (.ref 2), some (.ref 0), some (.ref 101), some (.int (1 + (q2.1 - q2.1 / 31 * 31))), some (.int q4.1), none, none, none, none, none, none, none, none, none, none, none, none, none, none, none, none, none, none, none, none, none, none]) (st' := [.int 66, .ref 0, .int 1]) (w' := q4.2) (g := []) (K := []) (by decide +kernel) rfl rfl rfl rfl jk0 ?_
      obtain ⟨q5, hq5, h⟩ := jbe h
      refine ev_callS (y2 := y_Law_pick) (o := 10) (idx := 11) (d2 := d_Law_pick) (n := 2) (mc2 := 0) (ms2 := 0) (As := [.ref 0, .int 66]) (st := [.int 1]) (res2 := (some (.int q5.1), (jRx 102), q5.2)) (by decide +kernel) rfl lk_10_11 mo_Law_pick ms_Law_pick ⟨Nat.le_of_ble_eq_true rfl, Nat.le_of_ble_eq_true rfl⟩ rfl rfl (Nat.le_of_ble_eq_true rfl) ⟨Nat.le_of_ble_eq_true rfl, Nat.le_of_ble_eq_true rfl⟩ hG (e_Law_pick hG (Nat.le_of_ble_eq_true rfl) hxs hLs hq5) ?_
      obtain ⟨hg6, h⟩ := jgd h
      refine ev_seg (o := 10) (nL := 27) (q := 82) (xs := [(.iload 4, 2, 4, 0, .null), (.irem, 1, 0, 0, .null), (.iadd, 1, 0, 0, .null), (.istore 5, 2, 5, 0, .null), (.aload_n 0, 1, 0, 0, .null), (.iload_n 3, 1, 3, 0, .null), (.iload 5, 2, 5, 0, .null), (.iconst 0, 1, 0, 0, .int 0)]) (L' := [some (.ref 2), some (.ref 0), some (.ref 101), some (.int (1 + (q2.1 - q2.1 / 31 * 31))), some (.int q4.1), some (.int (1 + (q5.1 - q5.1 / q4.1 * q4.1))), none, none, none, none, none, none, none, none, none, none, none, none, none, none, none, none, none, none, none, none, none]) (st' := [.int 0, .int (1 + (q5.1 - q5.1 / q4.1 * q4.1)), .int (1 + (q2.1 - q2.1 / 31 * 31)), .ref 2]) (w' := q5.2) (g := [!(q4.1 == 0)]) (K := []) (by decide +kernel) rfl rfl rfl hg6 jk0 ?_
      obtain ⟨q7, hq7, h⟩ := jbe h
      refine ev_callV (ci := 9) (a := 2) (y2 := y_Count_value) (o := 10) (idx := 115) (d2 := d_Count_value) (n := 3) (mc2 := 0) (ms2 := 0) (As := [.int (1 + (q2.1 - q2.1 / 31 * 31)), .int (1 + (q5.1 - q5.1 / q4.1 * q4.1)), .int 0]) (st := []) (res2 := (some (.long q7.1), (jRx 102), q7.2)) (by decide +kernel) rfl lk_10_115 mo_Count_value mv_Count_value ⟨Nat.le_of_ble_eq_true rfl, Nat.le_of_ble_eq_true rfl⟩ rfl rfl (kz_2 (Nat.le_of_ble_eq_true rfl)) (by decide) rfl (Nat.le_of_ble_eq_true rfl) ⟨Nat.le_of_ble_eq_true rfl, Nat.le_of_ble_eq_true rfl⟩ hG (e_Count_value hG (Nat.le_of_ble_eq_true rfl) hq7) ?_
      refine ev_seg (o := 10) (nL := 27) (q := 92) (xs := [(.lstore 6, 2, 6, 0, .null), (.aload_n 0, 1, 0, 0, .null), (.iload_n 3, 1, 3, 0, .null), (.iload 5, 2, 5, 0, .null), (.iconst 1, 1, 0, 0, .int 1)]) (L' := [some (.ref 2), some (.ref 0), some (.ref 101), some (.int (1 + (q2.1 - q2.1 / 31 * 31))), some (.int q4.1), some (.int (1 + (q5.1 - q5.1 / q4.1 * q4.1))), some (.long q7.1), none, none, none, none, none, none, none, none, none, none, none, none, none, none, none, none, none, none, none, none]) (st' := [.int 1, .int (1 + (q5.1 - q5.1 / q4.1 * q4.1)), .int (1 + (q2.1 - q2.1 / 31 * 31)), .ref 2]) (w' := q7.2) (g := []) (K := []) (by decide +kernel) rfl rfl rfl rfl jk0 ?_
      obtain ⟨q8, hq8, h⟩ := jbe h
      refine ev_callV (ci := 9) (a := 2) (y2 := y_Count_value) (o := 10) (idx := 115) (d2 := d_Count_value) (n := 3) (mc2 := 0) (ms2 := 0) (As := [.int (1 + (q2.1 - q2.1 / 31 * 31)), .int (1 + (q5.1 - q5.1 / q4.1 * q4.1)), .int 1]) (st := []) (res2 := (some (.long q8.1), (jRx 102), q8.2)) (by decide +kernel) rfl lk_10_115 mo_Count_value mv_Count_value ⟨Nat.le_of_ble_eq_true rfl, Nat.le_of_ble_eq_true rfl⟩ rfl rfl (kz_2 (Nat.le_of_ble_eq_true rfl)) (by decide) rfl (Nat.le_of_ble_eq_true rfl) ⟨Nat.le_of_ble_eq_true rfl, Nat.le_of_ble_eq_true rfl⟩ hG (e_Count_value hG (Nat.le_of_ble_eq_true rfl) hq8) ?_
      refine ev_seg (o := 10) (nL := 27) (q := 98) (xs := [(.lstore 8, 2, 8, 0, .null), (.iconst 2, 1, 0, 0, .int 2)]) (L' := [some (.ref 2), some (.ref 0), some (.ref 101), some (.int (1 + (q2.1 - q2.1 / 31 * 31))), some (.int q4.1), some (.int (1 + (q5.1 - q5.1 / q4.1 * q4.1))), some (.long q7.1), none, some (.long q8.1), none, none, none, none, none, none, none, none, none, none, none, none, none, none, none, none, none, none]) (st' := [.int 2]) (w' := q8.2) (g := []) (K := []) (by decide +kernel) rfl rfl rfl rfl jk0 ?_
      refine ev_newx (kk := 102) (kd := 22) (ty := .long) (atype := .long) (N := 2) (by decide +kernel) rfl (by decide +kernel) (Or.inr (Or.inr ⟨rfl, rfl⟩)) ja_long (by decide +kernel) (by decide +kernel) (Nat.le_of_ble_eq_true rfl) (Nat.le_of_ble_eq_true rfl) (Nat.le_of_ble_eq_true rfl) ?_
      refine jlw_c (P := fun w9 => Ev l G (jrm d_Law_shares 4 17) y_Law_shares (some (.int z.1), (jRx 105), z.2) 4 17 2 7 100 [some (.ref 2), some (.ref 0), some (.ref 101), some (.int (1 + (q2.1 - q2.1 / 31 * 31))), some (.int q4.1), some (.int (1 + (q5.1 - q5.1 / q4.1 * q4.1))), some (.long q7.1), none, some (.long q8.1), none, none, none, none, none, none, none, none, none, none, none, none, none, none, none, none, none, none] [.ref 102] (jRx 103) w9) h fun w9 h => ?_
      obtain ⟨hg10, h⟩ := jgd h
      refine ev_seg (o := 10) (nL := 27) (q := 104) (xs := [(.dup, 1, 0, 0, .null), (.iconst 0, 1, 0, 0, .int 0), (.lconst 0, 1, 0, 0, .long 0), (.lastore, 1, 0, 0, .null)]) (L' := [some (.ref 2), some (.ref 0), some (.ref 101), some (.int (1 + (q2.1 - q2.1 / 31 * 31))), some (.int q4.1), some (.int (1 + (q5.1 - q5.1 / q4.1 * q4.1))), some (.long q7.1), none, some (.long q8.1), none, none, none, none, none, none, none, none, none, none, none, none, none, none, none, none, none, none]) (st' := [.ref 102]) (w' := (w9.1, (jup w9.2 102 (Int32.toNatClampNeg 0) 0))) (g := [jin 0 2]) (K := [(102, 22)]) (by decide +kernel) rfl rfl rfl hg10 (jk1 (rfl) jk0) ?_
      refine jlw_c (P := fun w11 => Ev l G (jrm d_Law_shares 4 17) y_Law_shares (some (.int z.1), (jRx 105), z.2) 4 17 2 7 104 [some (.ref 2), some (.ref 0), some (.ref 101), some (.int (1 + (q2.1 - q2.1 / 31 * 31))), some (.int q4.1), some (.int (1 + (q5.1 - q5.1 / q4.1 * q4.1))), some (.long q7.1), none, some (.long q8.1), none, none, none, none, none, none, none, none, none, none, none, none, none, none, none, none, none, none] [.ref 102] (jRx 103) w11) h fun w11 h => ?_
      obtain ⟨hg12, h⟩ := jgd h
      refine ev_seg (o := 10) (nL := 27) (q := 108) (xs := [(.dup, 1, 0, 0, .null), (.iconst 1, 1, 0, 0, .int 1), (.lconst 1, 1, 0, 0, .long 1), (.lastore, 1, 0, 0, .null)]) (L' := [some (.ref 2), some (.ref 0), some (.ref 101), some (.int (1 + (q2.1 - q2.1 / 31 * 31))), some (.int q4.1), some (.int (1 + (q5.1 - q5.1 / q4.1 * q4.1))), some (.long q7.1), none, some (.long q8.1), none, none, none, none, none, none, none, none, none, none, none, none, none, none, none, none, none, none]) (st' := [.ref 102]) (w' := (w11.1, (jup w11.2 102 (Int32.toNatClampNeg 1) 1))) (g := [jin 1 2]) (K := [(102, 22)]) (by decide +kernel) rfl rfl rfl hg12 (jk1 (rfl) jk0) ?_
      refine jlw_c (P := fun w13 => Ev l G (jrm d_Law_shares 4 17) y_Law_shares (some (.int z.1), (jRx 105), z.2) 4 17 2 7 108 [some (.ref 2), some (.ref 0), some (.ref 101), some (.int (1 + (q2.1 - q2.1 / 31 * 31))), some (.int q4.1), some (.int (1 + (q5.1 - q5.1 / q4.1 * q4.1))), some (.long q7.1), none, some (.long q8.1), none, none, none, none, none, none, none, none, none, none, none, none, none, none, none, none, none, none] [.ref 102] (jRx 103) w13) h fun w13 h => ?_
      refine ev_seg (o := 10) (nL := 27) (q := 116) (xs := [(.astore 10, 2, 10, 0, .null), (.iconst 0, 1, 0, 0, .int 0), (.istore 11, 2, 11, 0, .null), (.iconst 0, 1, 0, 0, .int 0), (.istore 12, 2, 12, 0, .null)]) (L' := [some (.ref 2), some (.ref 0), some (.ref 101), some (.int (1 + (q2.1 - q2.1 / 31 * 31))), some (.int q4.1), some (.int (1 + (q5.1 - q5.1 / q4.1 * q4.1))), some (.long q7.1), none, some (.long q8.1), none, some (.ref 102), some (.int 0), some (.int 0), none, none, none, none, none, none, none, none, none, none, none, none, none, none]) (st' := []) (w' := w13) (g := []) (K := []) (by decide +kernel) rfl rfl rfl rfl jk0 ?_
      refine ev_mask [true, true, true, true, true, true, true, false, true, false, true, true, true, false, false, false, false, false, false, false, false, false, false, false, false, false, false] ?_
      exact t_Law_shares_h116 hG hxs hLs jfu _ _ _ _ _ _ _ _ _ h
    · replace h := jpos c66 h
      refine ev_seg (o := 10) (nL := 27) (q := 19) (xs := [(.aload_n 2, 1, 2, 0, .null), (.iload_n 3, 1, 3, 0, .null), (.iconst 1, 1, 0, 0, .int 1), (.aload_n 1, 1, 1, 0, .null), (.bipush 60, 2, 0, 0, .int 60), (.iload_n 3, 1, 3, 0, .null), (.iadd, 1, 0, 0, .null)]) (L' := [some (.ref 2), some (.ref 0), some (.ref 101), some (.int x3), none, none, none, none, none, none, none, none, none, none, none, none, none, none, none, none, none, none, none, none, none, none, none]) (st' := [.int (60 + x3), .ref 0, .int 1, .int x3, .ref 101]) (w' := w) (g := []) (K := []) (by decide +kernel) rfl rfl rfl rfl jk0 ?_
      obtain ⟨q60, hq60, h⟩ := jbe h
      refine ev_callS (y2 := y_Law_pick) (o := 10) (idx := 11) (d2 := d_Law_pick) (n := 2) (mc2 := 0) (ms2 := 0) (As := [.ref 0, .int (60 + x3)]) (st := [.int 1, .int x3, .ref 101]) (res2 := (some (.int q60.1), (jRx 102), q60.2)) (by decide +kernel) rfl lk_10_11 mo_Law_pick ms_Law_pick ⟨Nat.le_of_ble_eq_true rfl, Nat.le_of_ble_eq_true rfl⟩ rfl rfl (Nat.le_of_ble_eq_true rfl) ⟨Nat.le_of_ble_eq_true rfl, Nat.le_of_ble_eq_true rfl⟩ hG (e_Law_pick hG (Nat.le_of_ble_eq_true rfl) hxs hLs hq60) ?_
      obtain ⟨hg61, h⟩ := jgd h
      refine ev_seg (o := 10) (nL := 27) (q := 27) (xs := [(.bipush 50, 2, 0, 0, .int 50), (.irem, 1, 0, 0, .null), (.iadd, 1, 0, 0, .null), (.iastore, 1, 0, 0, .null)]) (L' := [some (.ref 2), some (.ref 0), some (.ref 101), some (.int x3), none, none, none, none, none, none, none, none, none, none, none, none, none, none, none, none, none, none, none, none, none, none, none]) (st' := []) (w' := ((jup q60.2.1 101 (Int32.toNatClampNeg x3) (1 + (q60.1 - q60.1 / 50 * 50))), q60.2.2)) (g := [jin x3 5, !(50 == 0)]) (K := [(101, 20)]) (by decide +kernel) rfl rfl rfl hg61 (jk1 (rfl) jk0) ?_
      refine jlw_c (P := fun w62 => Ev l G (jrm d_Law_shares 4 17) y_Law_shares (some (.int z.1), (jRx 105), z.2) 4 17 1 5 27 [some (.ref 2), some (.ref 0), some (.ref 101), some (.int x3), none, none, none, none, none, none, none, none, none, none, none, none, none, none, none, none, none, none, none, none, none, none, none] [] (jRx 102) w62) h fun w62 h => ?_
      obtain ⟨hg63, h⟩ := jgd h
      refine ev_seg (o := 10) (nL := 27) (q := 32) (xs := [(.aload_n 0, 1, 0, 0, .null), (.iload_n 3, 1, 3, 0, .null), (.aload_n 2, 1, 2, 0, .null), (.iload_n 3, 1, 3, 0, .null), (.iaload, 1, 0, 0, .null)]) (L' := [some (.ref 2), some (.ref 0), some (.ref 101), some (.int x3), none, none, none, none, none, none, none, none, none, none, none, none, none, none, none, none, none, none, none, none, none, none, none]) (st' := [.int (w62.1 101 (Int32.toNatClampNeg x3)), .int x3, .ref 2]) (w' := w62) (g := [jin x3 5]) (K := [(101, 20)]) (by decide +kernel) rfl rfl rfl hg63 (jk1 (rfl) jk0) ?_
      obtain ⟨q64, hq64, h⟩ := jbe h
      refine ev_callV (ci := 9) (a := 2) (y2 := y_Count_chance) (o := 10) (idx := 106) (d2 := d_Count_chance) (n := 2) (mc2 := 0) (ms2 := 0) (As := [.int x3, .int (w62.1 101 (Int32.toNatClampNeg x3))]) (st := []) (res2 := (some (.int q64.1), (jRx 102), q64.2)) (by decide +kernel) rfl lk_10_106 mo_Count_chance mv_Count_chance ⟨Nat.le_of_ble_eq_true rfl, Nat.le_of_ble_eq_true rfl⟩ rfl rfl (kz_2 (Nat.le_of_ble_eq_true rfl)) (by decide) rfl (Nat.le_of_ble_eq_true rfl) ⟨Nat.le_of_ble_eq_true rfl, Nat.le_of_ble_eq_true rfl⟩ hG (e_Count_chance hG (Nat.le_of_ble_eq_true rfl) hq64) ?_
      refine ev_if_ne (off := 5) (tgt := 40) (by decide +kernel) (by decide) (fun c65 => ?_) (fun c65 => ?_)
      · replace h := jneg c65 h
        refine ev_seg (o := 10) (nL := 27) (q := 6) (xs := [(.iinc 3 1, 3, 3, 0, .int 1), (.goto (-37), 3, 0, 0, .null)]) (L' := [some (.ref 2), some (.ref 0), some (.ref 101), some (.int (x3 + 1)), none, none, none, none, none, none, none, none, none, none, none, none, none, none, none, none, none, none, none, none, none, none, none]) (st' := []) (w' := q64.2) (g := []) (K := []) (by decide +kernel) rfl rfl rfl rfl jk0 ?_
        refine ev_mask [true, true, true, true, false, false, false, false, false, false, false, false, false, false, false, false, false, false, false, false, false, false, false, false, false, false, false] ?_
        exact ih _ _ _ h
      · replace h := jpos c65 h
        cases h
def f_Law_shares (xs : Nat → Int32) (Ls : Nat) (w : jW) : Option (Int32 × jW) :=
  jlw (jzr w 101) fun w1 =>
  f_Law_shares_h6 xs Ls jfu 0 w1
set_option maxRecDepth 20000 in
set_option maxHeartbeats 40000000 in
theorem e_Law_shares {l : Launch} {G : jG} (hG : jX G) {xs : Nat → Int32} {Ls : Nat} (hxs : True) (hLs : jscr G Ls xs) {w : jW} {z : (Int32 × jW)} (h : f_Law_shares xs Ls w = some z) : Ct l G y_Law_shares d_Law_shares 4 17 [.ref 2, .ref 0] (jRx 101) w (some (.int z.1), (jRx 105), z.2) := by
  rw [f_Law_shares] at h
  refine Ct.of (L := [some (.ref 2), some (.ref 0), none, none, none, none, none, none, none, none, none, none, none, none, none, none, none, none, none, none, none, none, none, none, none, none, none]) (by decide) (Nat.le_of_ble_eq_true rfl) rfl ?_
  refine ev_seg (o := 10) (nL := 27) (q := 1) (xs := [(.iconst 5, 1, 0, 0, .int 5)]) (L' := [some (.ref 2), some (.ref 0), none, none, none, none, none, none, none, none, none, none, none, none, none, none, none, none, none, none, none, none, none, none, none, none, none]) (st' := [.int 5]) (w' := w) (g := []) (K := []) (by decide +kernel) rfl rfl rfl rfl jk0 ?_
  refine ev_newx (kk := 101) (kd := 20) (ty := .int) (atype := .int) (N := 5) (by decide +kernel) rfl (by decide +kernel) (Or.inl ⟨rfl, rfl⟩) ja_int (by decide +kernel) (by decide +kernel) (Nat.le_of_ble_eq_true rfl) (Nat.le_of_ble_eq_true rfl) (Nat.le_of_ble_eq_true rfl) ?_
  refine jlw_c (P := fun w1 => Ev l G (jrm d_Law_shares 4 17) y_Law_shares (some (.int z.1), (jRx 105), z.2) 4 17 1 5 3 [some (.ref 2), some (.ref 0), none, none, none, none, none, none, none, none, none, none, none, none, none, none, none, none, none, none, none, none, none, none, none, none, none] [.ref 101] (jRx 102) w1) h fun w1 h => ?_
  refine ev_seg (o := 10) (nL := 27) (q := 6) (xs := [(.astore_n 2, 1, 2, 0, .null), (.iconst 0, 1, 0, 0, .int 0), (.istore_n 3, 1, 3, 0, .null)]) (L' := [some (.ref 2), some (.ref 0), some (.ref 101), some (.int 0), none, none, none, none, none, none, none, none, none, none, none, none, none, none, none, none, none, none, none, none, none, none, none]) (st' := []) (w' := w1) (g := []) (K := []) (by decide +kernel) rfl rfl rfl rfl jk0 ?_
  refine ev_mask [true, true, true, true, false, false, false, false, false, false, false, false, false, false, false, false, false, false, false, false, false, false, false, false, false, false, false] ?_
  exact t_Law_shares_h6 hG hxs hLs jfu _ _ _ h

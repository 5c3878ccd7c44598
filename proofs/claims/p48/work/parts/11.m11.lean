def f_Treaty_holds_h24 : Nat → Int64 → Int32 → Int32 → jW → Option (Int32 × jW)
  | 0, _, _, _, _ => none
  | n + 1, x2, x4, x5, w =>
  if x5 < x4 then
    Option.bind (f_Rows_at 21 x5 0 w) fun q4 =>
    if q4.1 = 30012 then
      (f_Treaty_holds_h24 n) (x2 ^^^ 1) x4 (x5 + 1) q4.2
    else
      if q4.1 = 30011 then
        (f_Treaty_holds_h24 n) ((x2 >>> (Int32.toInt64 1 &&& 63)) &&& (x2 ||| (-2))) x4 (x5 + 1) q4.2
      else
        if q4.1 = 30010 then
          (f_Treaty_holds_h24 n) ((x2 >>> (Int32.toInt64 1 &&& 63)) ||| (x2 &&& 1)) x4 (x5 + 1) q4.2
        else
          Option.bind (f_Treaty_operand q4.1 q4.2) fun q5 =>
          Option.bind (f_Rows_at 21 (x5 + 1) 0 q5.2) fun q6 =>
          Option.bind (f_Rows_at 21 (x5 + 2) 0 q6.2) fun q7 =>
          Option.bind (f_Treaty_operand q7.1 q7.2) fun q8 =>
          Option.bind (f_Treaty_compares q5.1 q6.1 q8.1 q8.2) fun q9 =>
          if q9.1 = 0 then
            (f_Treaty_holds_h24 n) ((x2 <<< (Int32.toInt64 1 &&& 63)) ||| (Int32.toInt64 0)) x4 ((x5 + 2) + 1) q9.2
          else
            (f_Treaty_holds_h24 n) ((x2 <<< (Int32.toInt64 1 &&& 63)) ||| (Int32.toInt64 1)) x4 ((x5 + 2) + 1) q9.2
  else
    if (lg_cmp (x2 &&& 1) 1) = 0 then
      some (1, w)
    else
      some (0, w)
set_option maxRecDepth 20000 in
theorem t_Treaty_holds_h24 {l : Launch} {G : jG} (hG : jX G) {kk : Nat} (hk : 93 ≤ kk) : ∀ (n : Nat) (x2 : Int64) (x4 : Int32) (x5 : Int32) (w : jW) (z : (Int32 × jW)), f_Treaty_holds_h24 n x2 x4 x5 w = some z → Ev l G (jrm d_Treaty_holds 0 0) y_Treaty_holds (some (.int z.1), (jRx kk), z.2) 0 0 0 0 24 [some (.ref 16), none, some (.long x2), none, some (.int x4), some (.int x5), none, none] [] (jRx kk) w := by
  intro n
  induction n with
  | zero => intro x2 x4 x5 w z h; simp only [f_Treaty_holds_h24] at h; cases h
  | succ n ih =>
    intro x2 x4 x5 w z h
    rw [f_Treaty_holds_h24] at h
    refine ev_seg (o := 8) (nL := 8) (q := 28) (xs := [(.iload 5, 2, 5, 0, .null), (.iload 4, 2, 4, 0, .null)]) (L' := [some (.ref 16), none, some (.long x2), none, some (.int x4), some (.int x5), none, none]) (st' := [.int x4, .int x5]) (w' := w) (g := []) (K := []) (by decide +kernel) rfl rfl rfl rfl jk0 ?_
    refine ev_icmp_ge (off := 134) (tgt := 162) (by decide +kernel) (by decide) (fun c14 => ?_) (fun c14 => ?_)
    · replace h := jneg c14 h
      refine ev_seg (o := 8) (nL := 8) (q := 167) (xs := [(.lload_n 2, 1, 2, 0, .null), (.lconst 1, 1, 0, 0, .long 1), (.land, 1, 0, 0, .null), (.lconst 1, 1, 0, 0, .long 1), (.lcmp, 1, 0, 0, .null)]) (L' := [some (.ref 16), none, some (.long x2), none, some (.int x4), some (.int x5), none, none]) (st' := [.int (lg_cmp (x2 &&& 1) 1)]) (w' := w) (g := []) (K := []) (by decide +kernel) rfl rfl rfl rfl jk0 ?_
      refine ev_if_ne (off := 7) (tgt := 174) (by decide +kernel) (by decide) (fun c3 => ?_) (fun c3 => ?_)
      · replace h := jneg c3 h
        refine ev_seg (o := 8) (nL := 8) (q := 175) (xs := [(.iconst 0, 1, 0, 0, .int 0)]) (L' := [some (.ref 16), none, some (.long x2), none, some (.int x4), some (.int x5), none, none]) (st' := [.int 0]) (w' := w) (g := []) (K := []) (by decide +kernel) rfl rfl rfl rfl jk0 ?_
        cases h
        exact ev_zret (by decide +kernel) rfl rfl rfl rfl rfl
      · replace h := jpos c3 h
        refine ev_seg (o := 8) (nL := 8) (q := 175) (xs := [(.iconst 1, 1, 0, 0, .int 1), (.goto 4, 3, 0, 0, .null)]) (L' := [some (.ref 16), none, some (.long x2), none, some (.int x4), some (.int x5), none, none]) (st' := [.int 1]) (w' := w) (g := []) (K := []) (by decide +kernel) rfl rfl rfl rfl jk0 ?_
        cases h
        exact ev_zret (by decide +kernel) rfl rfl rfl rfl rfl
    · replace h := jpos c14 h
      refine ev_seg (o := 8) (nL := 8) (q := 38) (xs := [(.aload_n 0, 1, 0, 0, .null), (.getfield 23, 3, 8, 2, .ref 3), (.iload 5, 2, 5, 0, .null), (.iconst 0, 1, 0, 0, .int 0)]) (L' := [some (.ref 16), none, some (.long x2), none, some (.int x4), some (.int x5), none, none]) (st' := [.int 0, .int x5, .ref 21]) (w' := w) (g := []) (K := [(21, 3), (16, 8)]) (by decide +kernel) rfl rfl rfl rfl (jk1 (kz_21 hk) (jk1 (kz_16 hk) jk0)) ?_
      obtain ⟨q4, hq4, h⟩ := jbe h
      refine ev_callV (ci := 3) (a := 21) (y2 := y_Rows_at) (o := 8) (idx := 49) (d2 := d_Rows_at) (n := 2) (mc2 := 0) (ms2 := 0) (As := [.int x5, .int 0]) (st := []) (res2 := (some (.int q4.1), (jRx kk), q4.2)) (by decide +kernel) rfl lk_8_49 mo_Rows_at mv_Rows_at ⟨Nat.le_of_ble_eq_true rfl, Nat.le_of_ble_eq_true rfl⟩ rfl rfl (kz_21 hk) (by decide) rfl (Nat.le_of_ble_eq_true rfl) ⟨Nat.le_refl _, Nat.le_refl _⟩ hG (e_Rows_at hG hk (kz_21 hk) hq4) ?_
      refine ev_seg (o := 8) (nL := 8) (q := 48) (xs := [(.istore 6, 2, 6, 0, .null), (.iload 6, 2, 6, 0, .null), (.sipush 30012, 3, 0, 0, .int 30012)]) (L' := [some (.ref 16), none, some (.long x2), none, some (.int x4), some (.int x5), some (.int q4.1), none]) (st' := [.int 30012, .int q4.1]) (w' := q4.2) (g := []) (K := []) (by decide +kernel) rfl rfl rfl rfl jk0 ?_
      refine ev_icmp_ne (off := 10) (tgt := 58) (by decide +kernel) (by decide) (fun c13 => ?_) (fun c13 => ?_)
      · replace h := jneg c13 h
        refine ev_seg (o := 8) (nL := 8) (q := 63) (xs := [(.iload 6, 2, 6, 0, .null), (.sipush 30011, 3, 0, 0, .int 30011)]) (L' := [some (.ref 16), none, some (.long x2), none, some (.int x4), some (.int x5), some (.int q4.1), none]) (st' := [.int 30011, .int q4.1]) (w' := q4.2) (g := []) (K := []) (by decide +kernel) rfl rfl rfl rfl jk0 ?_
        refine ev_icmp_ne (off := 16) (tgt := 79) (by decide +kernel) (by decide) (fun c12 => ?_) (fun c12 => ?_)
        · replace h := jneg c12 h
          refine ev_seg (o := 8) (nL := 8) (q := 84) (xs := [(.iload 6, 2, 6, 0, .null), (.sipush 30010, 3, 0, 0, .int 30010)]) (L' := [some (.ref 16), none, some (.long x2), none, some (.int x4), some (.int x5), some (.int q4.1), none]) (st' := [.int 30010, .int q4.1]) (w' := q4.2) (g := []) (K := []) (by decide +kernel) rfl rfl rfl rfl jk0 ?_
          refine ev_icmp_ne (off := 14) (tgt := 98) (by decide +kernel) (by decide) (fun c11 => ?_) (fun c11 => ?_)
          · replace h := jneg c11 h
            refine ev_seg (o := 8) (nL := 8) (q := 101) (xs := [(.aload_n 0, 1, 0, 0, .null), (.iload 6, 2, 6, 0, .null)]) (L' := [some (.ref 16), none, some (.long x2), none, some (.int x4), some (.int x5), some (.int q4.1), none]) (st' := [.int q4.1, .ref 16]) (w' := q4.2) (g := []) (K := []) (by decide +kernel) rfl rfl rfl rfl jk0 ?_
            obtain ⟨q5, hq5, h⟩ := jbe h
            refine ev_callV (ci := 8) (a := 16) (y2 := y_Treaty_operand) (o := 8) (idx := 78) (d2 := d_Treaty_operand) (n := 1) (mc2 := 0) (ms2 := 0) (As := [.int q4.1]) (st := []) (res2 := (some (.int q5.1), (jRx kk), q5.2)) (by decide +kernel) rfl lk_8_78 mo_Treaty_operand mv_Treaty_operand ⟨Nat.le_of_ble_eq_true rfl, Nat.le_of_ble_eq_true rfl⟩ rfl rfl (kz_16 hk) (by decide) rfl (Nat.le_of_ble_eq_true rfl) ⟨Nat.le_refl _, Nat.le_refl _⟩ hG (e_Treaty_operand hG hk hq5) ?_
            refine ev_seg (o := 8) (nL := 8) (q := 113) (xs := [(.aload_n 0, 1, 0, 0, .null), (.getfield 23, 3, 8, 2, .ref 3), (.iload 5, 2, 5, 0, .null), (.iconst 1, 1, 0, 0, .int 1), (.iadd, 1, 0, 0, .null), (.iconst 0, 1, 0, 0, .int 0)]) (L' := [some (.ref 16), none, some (.long x2), none, some (.int x4), some (.int x5), some (.int q4.1), none]) (st' := [.int 0, .int (x5 + 1), .ref 21, .int q5.1]) (w' := q5.2) (g := []) (K := [(21, 3), (16, 8)]) (by decide +kernel) rfl rfl rfl rfl (jk1 (kz_21 hk) (jk1 (kz_16 hk) jk0)) ?_
            obtain ⟨q6, hq6, h⟩ := jbe h
            refine ev_callV (ci := 3) (a := 21) (y2 := y_Rows_at) (o := 8) (idx := 49) (d2 := d_Rows_at) (n := 2) (mc2 := 0) (ms2 := 0) (As := [.int (x5 + 1), .int 0]) (st := [.int q5.1]) (res2 := (some (.int q6.1), (jRx kk), q6.2)) (by decide +kernel) rfl lk_8_49 mo_Rows_at mv_Rows_at ⟨Nat.le_of_ble_eq_true rfl, Nat.le_of_ble_eq_true rfl⟩ rfl rfl (kz_21 hk) (by decide) rfl (Nat.le_of_ble_eq_true rfl) ⟨Nat.le_refl _, Nat.le_refl _⟩ hG (e_Rows_at hG hk (kz_21 hk) hq6) ?_
            refine ev_seg (o := 8) (nL := 8) (q := 126) (xs := [(.aload_n 0, 1, 0, 0, .null), (.aload_n 0, 1, 0, 0, .null), (.getfield 23, 3, 8, 2, .ref 3), (.iload 5, 2, 5, 0, .null), (.iconst 2, 1, 0, 0, .int 2), (.iadd, 1, 0, 0, .null), (.iconst 0, 1, 0, 0, .int 0)]) (L' := [some (.ref 16), none, some (.long x2), none, some (.int x4), some (.int x5), some (.int q4.1), none]) (st' := [.int 0, .int (x5 + 2), .ref 21, .ref 16, .int q6.1, .int q5.1]) (w' := q6.2) (g := []) (K := [(21, 3), (16, 8)]) (by decide +kernel) rfl rfl rfl rfl (jk1 (kz_21 hk) (jk1 (kz_16 hk) jk0)) ?_
            obtain ⟨q7, hq7, h⟩ := jbe h
            refine ev_callV (ci := 3) (a := 21) (y2 := y_Rows_at) (o := 8) (idx := 49) (d2 := d_Rows_at) (n := 2) (mc2 := 0) (ms2 := 0) (As := [.int (x5 + 2), .int 0]) (st := [.ref 16, .int q6.1, .int q5.1]) (res2 := (some (.int q7.1), (jRx kk), q7.2)) (by decide +kernel) rfl lk_8_49 mo_Rows_at mv_Rows_at ⟨Nat.le_of_ble_eq_true rfl, Nat.le_of_ble_eq_true rfl⟩ rfl rfl (kz_21 hk) (by decide) rfl (Nat.le_of_ble_eq_true rfl) ⟨Nat.le_refl _, Nat.le_refl _⟩ hG (e_Rows_at hG hk (kz_21 hk) hq7) ?_
            obtain ⟨q8, hq8, h⟩ := jbe h
            refine ev_callV (ci := 8) (a := 16) (y2 := y_Treaty_operand) (o := 8) (idx := 78) (d2 := d_Treaty_operand) (n := 1) (mc2 := 0) (ms2 := 0) (As := [.int q7.1]) (st := [.int q6.1, .int q5.1]) (res2 := (some (.int q8.1), (jRx kk), q8.2)) (by decide +kernel) rfl lk_8_78 mo_Treaty_operand mv_Treaty_operand ⟨Nat.le_of_ble_eq_true rfl, Nat.le_of_ble_eq_true rfl⟩ rfl rfl (kz_16 hk) (by decide) rfl (Nat.le_of_ble_eq_true rfl) ⟨Nat.le_refl _, Nat.le_refl _⟩ hG (e_Treaty_operand hG hk hq8) ?_
            obtain ⟨q9, hq9, h⟩ := jbe h
            refine ev_callS (y2 := y_Treaty_compares) (o := 8) (idx := 81) (d2 := d_Treaty_compares) (n := 3) (mc2 := 0) (ms2 := 0) (As := [.int q5.1, .int q6.1, .int q8.1]) (st := []) (res2 := (some (.int q9.1), (jRx kk), q9.2)) (by decide +kernel) rfl lk_8_81 mo_Treaty_compares ms_Treaty_compares ⟨Nat.le_of_ble_eq_true rfl, Nat.le_of_ble_eq_true rfl⟩ rfl rfl (Nat.le_of_ble_eq_true rfl) ⟨Nat.le_refl _, Nat.le_refl _⟩ hG (e_Treaty_compares hG hk hq9) ?_
            refine ev_seg (o := 8) (nL := 8) (q := 142) (xs := [(.istore 7, 2, 7, 0, .null), (.lload_n 2, 1, 2, 0, .null), (.iconst 1, 1, 0, 0, .int 1), (.lshl, 1, 0, 0, .null), (.iload 7, 2, 7, 0, .null)]) (L' := [some (.ref 16), none, some (.long x2), none, some (.int x4), some (.int x5), some (.int q4.1), some (.int q9.1)]) (st' := [.int q9.1, .long (x2 <<< (Int32.toInt64 1 &&& 63))]) (w' := q9.2) (g := []) (K := []) (by decide +kernel) rfl rfl rfl rfl jk0 ?_
            refine ev_if_eq (off := 7) (tgt := 149) (by decide +kernel) (by decide) (fun c10 => ?_) (fun c10 => ?_)
            · replace h := jpos c10 h
              refine ev_seg (o := 8) (nL := 8) (q := 24) (xs := [(.iconst 0, 1, 0, 0, .int 0), (.i2l, 1, 0, 0, .null), (.lor, 1, 0, 0, .null), (.lstore_n 2, 1, 2, 0, .null), (.iinc 5 2, 3, 5, 0, .int 2), (.iinc 5 1, 3, 5, 0, .int 1), (.goto (-135), 3, 0, 0, .null)]) (L' := [some (.ref 16), none, some (.long ((x2 <<< (Int32.toInt64 1 &&& 63)) ||| (Int32.toInt64 0))), none, some (.int x4), some (.int ((x5 + 2) + 1)), some (.int q4.1), some (.int q9.1)]) (st' := []) (w' := q9.2) (g := []) (K := []) (by decide +kernel) rfl rfl rfl rfl jk0 ?_
              refine ev_mask [true, false, true, false, true, true, false, false] ?_
              exact ih _ _ _ _ _ h
            · replace h := jneg c10 h
              refine ev_seg (o := 8) (nL := 8) (q := 24) (xs := [(.iconst 1, 1, 0, 0, .int 1), (.goto 4, 3, 0, 0, .null), (.i2l, 1, 0, 0, .null), (.lor, 1, 0, 0, .null), (.lstore_n 2, 1, 2, 0, .null), (.iinc 5 2, 3, 5, 0, .int 2), (.iinc 5 1, 3, 5, 0, .int 1), (.goto (-135), 3, 0, 0, .null)]) (L' := [some (.ref 16), none, some (.long ((x2 <<< (Int32.toInt64 1 &&& 63)) ||| (Int32.toInt64 1))), none, some (.int x4), some (.int ((x5 + 2) + 1)), some (.int q4.1), some (.int q9.1)]) (st' := []) (w' := q9.2) (g := []) (K := []) (by decide +kernel) rfl rfl rfl rfl jk0 ?_
              refine ev_mask [true, false, true, false, true, true, false, false] ?_
              exact ih _ _ _ _ _ h
          · replace h := jpos c11 h
            refine ev_seg (o := 8) (nL := 8) (q := 24) (xs := [(.lload_n 2, 1, 2, 0, .null), (.iconst 1, 1, 0, 0, .int 1), (.lshr, 1, 0, 0, .null), (.lload_n 2, 1, 2, 0, .null), (.lconst 1, 1, 0, 0, .long 1), (.land, 1, 0, 0, .null), (.lor, 1, 0, 0, .null), (.lstore_n 2, 1, 2, 0, .null), (.goto 61, 3, 0, 0, .null), (.iinc 5 1, 3, 5, 0, .int 1), (.goto (-135), 3, 0, 0, .null)]) (L' := [some (.ref 16), none, some (.long ((x2 >>> (Int32.toInt64 1 &&& 63)) ||| (x2 &&& 1))), none, some (.int x4), some (.int (x5 + 1)), some (.int q4.1), none]) (st' := []) (w' := q4.2) (g := []) (K := []) (by decide +kernel) rfl rfl rfl rfl jk0 ?_
            refine ev_mask [true, false, true, false, true, true, false, false] ?_
            exact ih _ _ _ _ _ h
        · replace h := jpos c12 h
          refine ev_seg (o := 8) (nL := 8) (q := 24) (xs := [(.lload_n 2, 1, 2, 0, .null), (.iconst 1, 1, 0, 0, .int 1), (.lshr, 1, 0, 0, .null), (.lload_n 2, 1, 2, 0, .null), (.ldc2_w 76, 3, 0, 0, .long (-2)), (.lor, 1, 0, 0, .null), (.land, 1, 0, 0, .null), (.lstore_n 2, 1, 2, 0, .null), (.goto 80, 3, 0, 0, .null), (.iinc 5 1, 3, 5, 0, .int 1), (.goto (-135), 3, 0, 0, .null)]) (L' := [some (.ref 16), none, some (.long ((x2 >>> (Int32.toInt64 1 &&& 63)) &&& (x2 ||| (-2)))), none, some (.int x4), some (.int (x5 + 1)), some (.int q4.1), none]) (st' := []) (w' := q4.2) (g := []) (K := []) (by decide +kernel) rfl rfl rfl rfl jk0 ?_
          refine ev_mask [true, false, true, false, true, true, false, false] ?_
          exact ih _ _ _ _ _ h
      · replace h := jpos c13 h
        refine ev_seg (o := 8) (nL := 8) (q := 24) (xs := [(.lload_n 2, 1, 2, 0, .null), (.lconst 1, 1, 0, 0, .long 1), (.lxor, 1, 0, 0, .null), (.lstore_n 2, 1, 2, 0, .null), (.goto 101, 3, 0, 0, .null), (.iinc 5 1, 3, 5, 0, .int 1), (.goto (-135), 3, 0, 0, .null)]) (L' := [some (.ref 16), none, some (.long (x2 ^^^ 1)), none, some (.int x4), some (.int (x5 + 1)), some (.int q4.1), none]) (st' := []) (w' := q4.2) (g := []) (K := []) (by decide +kernel) rfl rfl rfl rfl jk0 ?_
        refine ev_mask [true, false, true, false, true, true, false, false] ?_
        exact ih _ _ _ _ _ h
def f_Treaty_holds (x1 : Int32) (w : jW) : Option (Int32 × jW) :=
  Option.bind (f_Rows_at 19 x1 2 w) fun q1 =>
  Option.bind (f_Rows_at 19 x1 1 q1.2) fun q2 =>
  f_Treaty_holds_h24 jfu 0 q1.1 q2.1 q2.2
set_option maxRecDepth 20000 in
theorem e_Treaty_holds {l : Launch} {G : jG} (hG : jX G) {kk : Nat} (hk : 93 ≤ kk) {x1 : Int32} {w : jW} {z : (Int32 × jW)} (h : f_Treaty_holds x1 w = some z) : Ct l G y_Treaty_holds d_Treaty_holds 0 0 [.ref 16, .int x1] (jRx kk) w (some (.int z.1), (jRx kk), z.2) := by
  rw [f_Treaty_holds] at h
  refine Ct.of (L := [some (.ref 16), some (.int x1), none, none, none, none, none, none]) (by decide) (Nat.le_of_ble_eq_true rfl) rfl ?_
  refine ev_seg (o := 8) (nL := 8) (q := 8) (xs := [(.lconst 0, 1, 0, 0, .long 0), (.lstore_n 2, 1, 2, 0, .null), (.aload_n 0, 1, 0, 0, .null), (.getfield 20, 3, 8, 1, .ref 3), (.iload_n 1, 1, 1, 0, .null), (.iconst 2, 1, 0, 0, .int 2)]) (L' := [some (.ref 16), some (.int x1), some (.long 0), none, none, none, none, none]) (st' := [.int 2, .int x1, .ref 19]) (w' := w) (g := []) (K := [(19, 3), (16, 8)]) (by decide +kernel) rfl rfl rfl rfl (jk1 (kz_19 hk) (jk1 (kz_16 hk) jk0)) ?_
  obtain ⟨q1, hq1, h⟩ := jbe h
  refine ev_callV (ci := 3) (a := 19) (y2 := y_Rows_at) (o := 8) (idx := 49) (d2 := d_Rows_at) (n := 2) (mc2 := 0) (ms2 := 0) (As := [.int x1, .int 2]) (st := []) (res2 := (some (.int q1.1), (jRx kk), q1.2)) (by decide +kernel) rfl lk_8_49 mo_Rows_at mv_Rows_at ⟨Nat.le_of_ble_eq_true rfl, Nat.le_of_ble_eq_true rfl⟩ rfl rfl (kz_19 hk) (by decide) rfl (Nat.le_of_ble_eq_true rfl) ⟨Nat.le_refl _, Nat.le_refl _⟩ hG (e_Rows_at hG hk (kz_19 hk) hq1) ?_
  refine ev_seg (o := 8) (nL := 8) (q := 19) (xs := [(.istore 4, 2, 4, 0, .null), (.aload_n 0, 1, 0, 0, .null), (.getfield 20, 3, 8, 1, .ref 3), (.iload_n 1, 1, 1, 0, .null), (.iconst 1, 1, 0, 0, .int 1)]) (L' := [some (.ref 16), some (.int x1), some (.long 0), none, some (.int q1.1), none, none, none]) (st' := [.int 1, .int x1, .ref 19]) (w' := q1.2) (g := []) (K := [(19, 3), (16, 8)]) (by decide +kernel) rfl rfl rfl rfl (jk1 (kz_19 hk) (jk1 (kz_16 hk) jk0)) ?_
  obtain ⟨q2, hq2, h⟩ := jbe h
  refine ev_callV (ci := 3) (a := 19) (y2 := y_Rows_at) (o := 8) (idx := 49) (d2 := d_Rows_at) (n := 2) (mc2 := 0) (ms2 := 0) (As := [.int x1, .int 1]) (st := []) (res2 := (some (.int q2.1), (jRx kk), q2.2)) (by decide +kernel) rfl lk_8_49 mo_Rows_at mv_Rows_at ⟨Nat.le_of_ble_eq_true rfl, Nat.le_of_ble_eq_true rfl⟩ rfl rfl (kz_19 hk) (by decide) rfl (Nat.le_of_ble_eq_true rfl) ⟨Nat.le_refl _, Nat.le_refl _⟩ hG (e_Rows_at hG hk (kz_19 hk) hq2) ?_
  refine ev_seg (o := 8) (nL := 8) (q := 24) (xs := [(.istore 5, 2, 5, 0, .null)]) (L' := [some (.ref 16), some (.int x1), some (.long 0), none, some (.int q1.1), some (.int q2.1), none, none]) (st' := []) (w' := q2.2) (g := []) (K := []) (by decide +kernel) rfl rfl rfl rfl jk0 ?_
  refine ev_mask [true, false, true, false, true, true, false, false] ?_
  exact t_Treaty_holds_h24 hG hk jfu _ _ _ _ _ h
def f_Treaty_someHolds_h10 : Nat → Int32 → Int32 → Int32 → jW → Option (Int32 × jW)
  | 0, _, _, _, _ => none
  | n + 1, x1, x2, x3, w =>
  Option.bind (f_Rows_at 17 x1 3 w) fun q2 =>
  if x3 < q2.1 then
    Option.bind (f_Rows_at 19 x3 0 q2.2) fun q3 =>
    if q3.1 = x2 then
      Option.bind (f_Treaty_holds x3 q3.2) fun q4 =>
      if q4.1 = 0 then
        (f_Treaty_someHolds_h10 n) x1 x2 (x3 + 1) q4.2
      else
        some (1, q4.2)
    else
      (f_Treaty_someHolds_h10 n) x1 x2 (x3 + 1) q3.2
  else
    some (0, q2.2)
set_option maxRecDepth 20000 in
theorem t_Treaty_someHolds_h10 {l : Launch} {G : jG} (hG : jX G) {kk : Nat} (hk : 93 ≤ kk) : ∀ (n : Nat) (x1 : Int32) (x2 : Int32) (x3 : Int32) (w : jW) (z : (Int32 × jW)), f_Treaty_someHolds_h10 n x1 x2 x3 w = some z → Ev l G (jrm d_Treaty_someHolds 0 0) y_Treaty_someHolds (some (.int z.1), (jRx kk), z.2) 0 0 0 0 10 [some (.ref 16), some (.int x1), some (.int x2), some (.int x3)] [] (jRx kk) w := by
  intro n
  induction n with
  | zero => intro x1 x2 x3 w z h; simp only [f_Treaty_someHolds_h10] at h; cases h
  | succ n ih =>
    intro x1 x2 x3 w z h
    rw [f_Treaty_someHolds_h10] at h
    refine ev_seg (o := 8) (nL := 4) (q := 17) (xs := [(.iload_n 3, 1, 3, 0, .null), (.aload_n 0, 1, 0, 0, .null), (.getfield 14, 3, 8, 0, .ref 3), (.iload_n 1, 1, 1, 0, .null), (.iconst 3, 1, 0, 0, .int 3)]) (L' := [some (.ref 16), some (.int x1), some (.int x2), some (.int x3)]) (st' := [.int 3, .int x1, .ref 17, .int x3]) (w' := w) (g := []) (K := [(17, 3), (16, 8)]) (by decide +kernel) rfl rfl rfl rfl (jk1 (kz_17 hk) (jk1 (kz_16 hk) jk0)) ?_
    obtain ⟨q2, hq2, h⟩ := jbe h
    refine ev_callV (ci := 3) (a := 17) (y2 := y_Rows_at) (o := 8) (idx := 49) (d2 := d_Rows_at) (n := 2) (mc2 := 0) (ms2 := 0) (As := [.int x1, .int 3]) (st := [.int x3]) (res2 := (some (.int q2.1), (jRx kk), q2.2)) (by decide +kernel) rfl lk_8_49 mo_Rows_at mv_Rows_at ⟨Nat.le_of_ble_eq_true rfl, Nat.le_of_ble_eq_true rfl⟩ rfl rfl (kz_17 hk) (by decide) rfl (Nat.le_of_ble_eq_true rfl) ⟨Nat.le_refl _, Nat.le_refl _⟩ hG (e_Rows_at hG hk (kz_17 hk) hq2) ?_
    refine ev_icmp_ge (off := 32) (tgt := 52) (by decide +kernel) (by decide) (fun c7 => ?_) (fun c7 => ?_)
    · replace h := jneg c7 h
      refine ev_seg (o := 8) (nL := 4) (q := 53) (xs := [(.iconst 0, 1, 0, 0, .int 0)]) (L' := [some (.ref 16), some (.int x1), some (.int x2), some (.int x3)]) (st' := [.int 0]) (w' := q2.2) (g := []) (K := []) (by decide +kernel) rfl rfl rfl rfl jk0 ?_
      cases h
      exact ev_zret (by decide +kernel) rfl rfl rfl rfl rfl
    · replace h := jpos c7 h
      refine ev_seg (o := 8) (nL := 4) (q := 29) (xs := [(.aload_n 0, 1, 0, 0, .null), (.getfield 20, 3, 8, 1, .ref 3), (.iload_n 3, 1, 3, 0, .null), (.iconst 0, 1, 0, 0, .int 0)]) (L' := [some (.ref 16), some (.int x1), some (.int x2), some (.int x3)]) (st' := [.int 0, .int x3, .ref 19]) (w' := q2.2) (g := []) (K := [(19, 3), (16, 8)]) (by decide +kernel) rfl rfl rfl rfl (jk1 (kz_19 hk) (jk1 (kz_16 hk) jk0)) ?_
      obtain ⟨q3, hq3, h⟩ := jbe h
      refine ev_callV (ci := 3) (a := 19) (y2 := y_Rows_at) (o := 8) (idx := 49) (d2 := d_Rows_at) (n := 2) (mc2 := 0) (ms2 := 0) (As := [.int x3, .int 0]) (st := []) (res2 := (some (.int q3.1), (jRx kk), q3.2)) (by decide +kernel) rfl lk_8_49 mo_Rows_at mv_Rows_at ⟨Nat.le_of_ble_eq_true rfl, Nat.le_of_ble_eq_true rfl⟩ rfl rfl (kz_19 hk) (by decide) rfl (Nat.le_of_ble_eq_true rfl) ⟨Nat.le_refl _, Nat.le_refl _⟩ hG (e_Rows_at hG hk (kz_19 hk) hq3) ?_
      refine ev_seg (o := 8) (nL := 4) (q := 33) (xs := [(.iload_n 2, 1, 2, 0, .null)]) (L' := [some (.ref 16), some (.int x1), some (.int x2), some (.int x3)]) (st' := [.int x2, .int q3.1]) (w' := q3.2) (g := []) (K := []) (by decide +kernel) rfl rfl rfl rfl jk0 ?_
      refine ev_icmp_ne (off := 13) (tgt := 46) (by decide +kernel) (by decide) (fun c6 => ?_) (fun c6 => ?_)
      · replace h := jneg c6 h
        refine ev_seg (o := 8) (nL := 4) (q := 10) (xs := [(.iinc 3 1, 3, 3, 0, .int 1), (.goto (-39), 3, 0, 0, .null)]) (L' := [some (.ref 16), some (.int x1), some (.int x2), some (.int (x3 + 1))]) (st' := []) (w' := q3.2) (g := []) (K := []) (by decide +kernel) rfl rfl rfl rfl jk0 ?_
        refine ev_mask [true, true, true, true] ?_
        exact ih _ _ _ _ _ h
      · replace h := jpos c6 h
        refine ev_seg (o := 8) (nL := 4) (q := 38) (xs := [(.aload_n 0, 1, 0, 0, .null), (.iload_n 3, 1, 3, 0, .null)]) (L' := [some (.ref 16), some (.int x1), some (.int x2), some (.int x3)]) (st' := [.int x3, .ref 16]) (w' := q3.2) (g := []) (K := []) (by decide +kernel) rfl rfl rfl rfl jk0 ?_
        obtain ⟨q4, hq4, h⟩ := jbe h
        refine ev_callV (ci := 8) (a := 16) (y2 := y_Treaty_holds) (o := 8) (idx := 72) (d2 := d_Treaty_holds) (n := 1) (mc2 := 0) (ms2 := 0) (As := [.int x3]) (st := []) (res2 := (some (.int q4.1), (jRx kk), q4.2)) (by decide +kernel) rfl lk_8_72 mo_Treaty_holds mv_Treaty_holds ⟨Nat.le_of_ble_eq_true rfl, Nat.le_of_ble_eq_true rfl⟩ rfl rfl (kz_16 hk) (by decide) rfl (Nat.le_of_ble_eq_true rfl) ⟨Nat.le_refl _, Nat.le_refl _⟩ hG (e_Treaty_holds hG hk hq4) ?_
        refine ev_if_eq (off := 5) (tgt := 46) (by decide +kernel) (by decide) (fun c5 => ?_) (fun c5 => ?_)
        · replace h := jpos c5 h
          refine ev_seg (o := 8) (nL := 4) (q := 10) (xs := [(.iinc 3 1, 3, 3, 0, .int 1), (.goto (-39), 3, 0, 0, .null)]) (L' := [some (.ref 16), some (.int x1), some (.int x2), some (.int (x3 + 1))]) (st' := []) (w' := q4.2) (g := []) (K := []) (by decide +kernel) rfl rfl rfl rfl jk0 ?_
          refine ev_mask [true, true, true, true] ?_
          exact ih _ _ _ _ _ h
        · replace h := jneg c5 h
          refine ev_seg (o := 8) (nL := 4) (q := 45) (xs := [(.iconst 1, 1, 0, 0, .int 1)]) (L' := [some (.ref 16), some (.int x1), some (.int x2), some (.int x3)]) (st' := [.int 1]) (w' := q4.2) (g := []) (K := []) (by decide +kernel) rfl rfl rfl rfl jk0 ?_
          cases h
          exact ev_zret (by decide +kernel) rfl rfl rfl rfl rfl
def f_Treaty_someHolds (x1 : Int32) (x2 : Int32) (w : jW) : Option (Int32 × jW) :=
  Option.bind (f_Rows_at 17 x1 2 w) fun q1 =>
  f_Treaty_someHolds_h10 jfu x1 x2 q1.1 q1.2
set_option maxRecDepth 20000 in
theorem e_Treaty_someHolds {l : Launch} {G : jG} (hG : jX G) {kk : Nat} (hk : 93 ≤ kk) {x1 : Int32} {x2 : Int32} {w : jW} {z : (Int32 × jW)} (h : f_Treaty_someHolds x1 x2 w = some z) : Ct l G y_Treaty_someHolds d_Treaty_someHolds 0 0 [.ref 16, .int x1, .int x2] (jRx kk) w (some (.int z.1), (jRx kk), z.2) := by
  rw [f_Treaty_someHolds] at h
  refine Ct.of (L := [some (.ref 16), some (.int x1), some (.int x2), none]) (by decide) (Nat.le_of_ble_eq_true rfl) rfl ?_
  refine ev_seg (o := 8) (nL := 4) (q := 6) (xs := [(.aload_n 0, 1, 0, 0, .null), (.getfield 14, 3, 8, 0, .ref 3), (.iload_n 1, 1, 1, 0, .null), (.iconst 2, 1, 0, 0, .int 2)]) (L' := [some (.ref 16), some (.int x1), some (.int x2), none]) (st' := [.int 2, .int x1, .ref 17]) (w' := w) (g := []) (K := [(17, 3), (16, 8)]) (by decide +kernel) rfl rfl rfl rfl (jk1 (kz_17 hk) (jk1 (kz_16 hk) jk0)) ?_
  obtain ⟨q1, hq1, h⟩ := jbe h
  refine ev_callV (ci := 3) (a := 17) (y2 := y_Rows_at) (o := 8) (idx := 49) (d2 := d_Rows_at) (n := 2) (mc2 := 0) (ms2 := 0) (As := [.int x1, .int 2]) (st := []) (res2 := (some (.int q1.1), (jRx kk), q1.2)) (by decide +kernel) rfl lk_8_49 mo_Rows_at mv_Rows_at ⟨Nat.le_of_ble_eq_true rfl, Nat.le_of_ble_eq_true rfl⟩ rfl rfl (kz_17 hk) (by decide) rfl (Nat.le_of_ble_eq_true rfl) ⟨Nat.le_refl _, Nat.le_refl _⟩ hG (e_Rows_at hG hk (kz_17 hk) hq1) ?_
  refine ev_seg (o := 8) (nL := 4) (q := 10) (xs := [(.istore_n 3, 1, 3, 0, .null)]) (L' := [some (.ref 16), some (.int x1), some (.int x2), some (.int q1.1)]) (st' := []) (w' := q1.2) (g := []) (K := []) (by decide +kernel) rfl rfl rfl rfl jk0 ?_
  refine ev_mask [true, true, true, true] ?_
  exact t_Treaty_someHolds_h10 hG hk jfu _ _ _ _ _ h
def f_State_lookAround_j92 (k25 : Int32 → Int32 → Int32 → Int32 → Int32 → Int32 → jW → Option jW) (x1 : Int32) (x2 : Int32) (x3 : Int32) (x4 : Int32) (x5 : Int32) (x6 : Int32) (s0 : Int32) (w : jW) : Option jW :=
  Option.bind (f_Rows_at 26 x1 s0 w) fun q8 =>
  Option.bind (f_Rows_put 26 x1 s0 (q8.1 + 1) q8.2) fun q9 =>
  k25 x1 x2 x3 x4 x5 (x6 + 1) q9
set_option maxRecDepth 20000 in
theorem t_State_lookAround_j92 {l : Launch} {G : jG} (hG : jX G) {kk : Nat} (hk : 93 ≤ kk) {k25 : Int32 → Int32 → Int32 → Int32 → Int32 → Int32 → jW → Option jW} (hk25 : ∀ (x1 : Int32) (x2 : Int32) (x3 : Int32) (x4 : Int32) (x5 : Int32) (x6 : Int32) (w : jW) (z : jW), k25 x1 x2 x3 x4 x5 x6 w = some z → Ev l G (jrm d_State_lookAround 0 0) y_State_lookAround (none, (jRx kk), z) 0 0 0 0 25 [some (.ref 3), some (.int x1), some (.int x2), some (.int x3), some (.int x4), some (.int x5), some (.int x6), none] [] (jRx kk) w) {x1 : Int32} {x2 : Int32} {x3 : Int32} {x4 : Int32} {x5 : Int32} {x6 : Int32} {s0 : Int32} {w : jW} {z : jW} (h : f_State_lookAround_j92 k25 x1 x2 x3 x4 x5 x6 s0 w = some z) : Ev l G (jrm d_State_lookAround 0 0) y_State_lookAround (none, (jRx kk), z) 0 0 0 0 92 [some (.ref 3), some (.int x1), some (.int x2), some (.int x3), some (.int x4), some (.int x5), some (.int x6), none] [.int s0] (jRx kk) w := by
  rw [f_State_lookAround_j92] at h
  refine ev_seg (o := 6) (nL := 8) (q := 108) (xs := [(.istore 7, 2, 7, 0, .null), (.aload_n 0, 1, 0, 0, .null), (.getfield 61, 3, 6, 13, .ref 3), (.iload_n 1, 1, 1, 0, .null), (.iload 7, 2, 7, 0, .null), (.aload_n 0, 1, 0, 0, .null), (.getfield 61, 3, 6, 13, .ref 3), (.iload_n 1, 1, 1, 0, .null), (.iload 7, 2, 7, 0, .null)]) (L' := [some (.ref 3), some (.int x1), some (.int x2), some (.int x3), some (.int x4), some (.int x5), some (.int x6), some (.int s0)]) (st' := [.int s0, .int x1, .ref 26, .int s0, .int x1, .ref 26]) (w' := w) (g := []) (K := [(26, 3), (3, 6), (26, 3), (3, 6)]) (by decide +kernel) rfl rfl rfl rfl (jk1 (kz_26 hk) (jk1 (kz_3 hk) (jk1 (kz_26 hk) (jk1 (kz_3 hk) jk0)))) ?_
  obtain ⟨q8, hq8, h⟩ := jbe h
  refine ev_callV (ci := 3) (a := 26) (y2 := y_Rows_at) (o := 6) (idx := 91) (d2 := d_Rows_at) (n := 2) (mc2 := 0) (ms2 := 0) (As := [.int x1, .int s0]) (st := [.int s0, .int x1, .ref 26]) (res2 := (some (.int q8.1), (jRx kk), q8.2)) (by decide +kernel) rfl lk_6_91 mo_Rows_at mv_Rows_at ⟨Nat.le_of_ble_eq_true rfl, Nat.le_of_ble_eq_true rfl⟩ rfl rfl (kz_26 hk) (by decide) rfl (Nat.le_of_ble_eq_true rfl) ⟨Nat.le_refl _, Nat.le_refl _⟩ hG (e_Rows_at hG hk (kz_26 hk) hq8) ?_
  refine ev_seg (o := 6) (nL := 8) (q := 113) (xs := [(.iconst 1, 1, 0, 0, .int 1), (.iadd, 1, 0, 0, .null)]) (L' := [some (.ref 3), some (.int x1), some (.int x2), some (.int x3), some (.int x4), some (.int x5), some (.int x6), some (.int s0)]) (st' := [.int (q8.1 + 1), .int s0, .int x1, .ref 26]) (w' := q8.2) (g := []) (K := []) (by decide +kernel) rfl rfl rfl rfl jk0 ?_
  obtain ⟨q9, hq9, h⟩ := jbe h
  refine ev_callV (ci := 3) (a := 26) (y2 := y_Rows_put) (o := 6) (idx := 83) (d2 := d_Rows_put) (n := 3) (mc2 := 0) (ms2 := 0) (As := [.int x1, .int s0, .int (q8.1 + 1)]) (st := []) (res2 := (none, (jRx kk), q9)) (by decide +kernel) rfl lk_6_83 mo_Rows_put mv_Rows_put ⟨Nat.le_of_ble_eq_true rfl, Nat.le_of_ble_eq_true rfl⟩ rfl rfl (kz_26 hk) (by decide) rfl (Nat.le_of_ble_eq_true rfl) ⟨Nat.le_refl _, Nat.le_refl _⟩ hG (e_Rows_put hG hk (kz_26 hk) hq9) ?_
  refine ev_seg (o := 6) (nL := 8) (q := 25) (xs := [(.iinc 6 1, 3, 6, 0, .int 1), (.goto (-94), 3, 0, 0, .null)]) (L' := [some (.ref 3), some (.int x1), some (.int x2), some (.int x3), some (.int x4), some (.int x5), some (.int (x6 + 1)), some (.int s0)]) (st' := []) (w' := q9) (g := []) (K := []) (by decide +kernel) rfl rfl rfl rfl jk0 ?_
  refine ev_mask [true, true, true, true, true, true, true, false] ?_
  exact hk25 _ _ _ _ _ _ _ _ h
def f_State_lookAround_h25 : Nat → Int32 → Int32 → Int32 → Int32 → Int32 → Int32 → jW → Option jW
  | 0, _, _, _, _, _, _, _ => none
  | n + 1, x1, x2, x3, x4, x5, x6, w =>
  Option.bind (f_Rows_count 10 w) fun q3 =>
  if x6 < q3.1 then
    Option.bind (f_State_placeOn x6 (x3 - 1) q3.2) fun q4 =>
    if q4.1 = x2 then
      Option.bind (f_Treaty_look 10 x6 x5 q4.2) fun q5 =>
      Option.bind (f_Treaty_someHolds x4 4 q5) fun q6 =>
      if q6.1 = 0 then
        Option.bind (f_Rows_at 10 x6 0 q6.2) fun q7 =>
        f_State_lookAround_j92 (f_State_lookAround_h25 n) x1 x2 x3 x4 x5 x6 q7.1 q7.2
      else
        f_State_lookAround_j92 (f_State_lookAround_h25 n) x1 x2 x3 x4 x5 x6 4 q6.2
    else
      (f_State_lookAround_h25 n) x1 x2 x3 x4 x5 (x6 + 1) q4.2
  else
    some q3.2
set_option maxRecDepth 20000 in
theorem t_State_lookAround_h25 {l : Launch} {G : jG} (hG : jX G) {kk : Nat} (hk : 93 ≤ kk) : ∀ (n : Nat) (x1 : Int32) (x2 : Int32) (x3 : Int32) (x4 : Int32) (x5 : Int32) (x6 : Int32) (w : jW) (z : jW), f_State_lookAround_h25 n x1 x2 x3 x4 x5 x6 w = some z → Ev l G (jrm d_State_lookAround 0 0) y_State_lookAround (none, (jRx kk), z) 0 0 0 0 25 [some (.ref 3), some (.int x1), some (.int x2), some (.int x3), some (.int x4), some (.int x5), some (.int x6), none] [] (jRx kk) w := by
  intro n
  induction n with
  | zero => intro x1 x2 x3 x4 x5 x6 w z h; simp only [f_State_lookAround_h25] at h; cases h
  | succ n ih =>
    intro x1 x2 x3 x4 x5 x6 w z h
    rw [f_State_lookAround_h25] at h
    refine ev_seg (o := 6) (nL := 8) (q := 31) (xs := [(.iload 6, 2, 6, 0, .null), (.aload_n 0, 1, 0, 0, .null), (.getfield 42, 3, 6, 8, .ref 3)]) (L' := [some (.ref 3), some (.int x1), some (.int x2), some (.int x3), some (.int x4), some (.int x5), some (.int x6), none]) (st' := [.ref 10, .int x6]) (w' := w) (g := []) (K := [(10, 3), (3, 6)]) (by decide +kernel) rfl rfl rfl rfl (jk1 (kz_10 hk) (jk1 (kz_3 hk) jk0)) ?_
    obtain ⟨q3, hq3, h⟩ := jbe h
    refine ev_callV (ci := 3) (a := 10) (y2 := y_Rows_count) (o := 6) (idx := 87) (d2 := d_Rows_count) (n := 0) (mc2 := 0) (ms2 := 0) (As := []) (st := [.int x6]) (res2 := (some (.int q3.1), (jRx kk), q3.2)) (by decide +kernel) rfl lk_6_87 mo_Rows_count mv_Rows_count ⟨Nat.le_of_ble_eq_true rfl, Nat.le_of_ble_eq_true rfl⟩ rfl rfl (kz_10 hk) (by decide) rfl (Nat.le_of_ble_eq_true rfl) ⟨Nat.le_refl _, Nat.le_refl _⟩ hG (e_Rows_count hG hk (kz_10 hk) hq3) ?_
    refine ev_icmp_ge (off := 88) (tgt := 122) (by decide +kernel) (by decide) (fun c12 => ?_) (fun c12 => ?_)
    · replace h := jneg c12 h
      cases h
      exact ev_vret (by decide +kernel) rfl rfl rfl rfl
    · replace h := jpos c12 h
      refine ev_seg (o := 6) (nL := 8) (q := 43) (xs := [(.aload_n 0, 1, 0, 0, .null), (.iload 6, 2, 6, 0, .null), (.iload_n 3, 1, 3, 0, .null), (.iconst 1, 1, 0, 0, .int 1), (.isub, 1, 0, 0, .null)]) (L' := [some (.ref 3), some (.int x1), some (.int x2), some (.int x3), some (.int x4), some (.int x5), some (.int x6), none]) (st' := [.int (x3 - 1), .int x6, .ref 3]) (w' := q3.2) (g := []) (K := []) (by decide +kernel) rfl rfl rfl rfl jk0 ?_
      obtain ⟨q4, hq4, h⟩ := jbe h
      refine ev_callV (ci := 6) (a := 3) (y2 := y_State_placeOn) (o := 6) (idx := 116) (d2 := d_State_placeOn) (n := 2) (mc2 := 0) (ms2 := 0) (As := [.int x6, .int (x3 - 1)]) (st := []) (res2 := (some (.int q4.1), (jRx kk), q4.2)) (by decide +kernel) rfl lk_6_116 mo_State_placeOn mv_State_placeOn ⟨Nat.le_of_ble_eq_true rfl, Nat.le_of_ble_eq_true rfl⟩ rfl rfl (kz_3 hk) (by decide) rfl (Nat.le_of_ble_eq_true rfl) ⟨Nat.le_refl _, Nat.le_refl _⟩ hG (e_State_placeOn hG hk hq4) ?_
      refine ev_seg (o := 6) (nL := 8) (q := 47) (xs := [(.iload_n 2, 1, 2, 0, .null)]) (L' := [some (.ref 3), some (.int x1), some (.int x2), some (.int x3), some (.int x4), some (.int x5), some (.int x6), none]) (st' := [.int x2, .int q4.1]) (w' := q4.2) (g := []) (K := []) (by decide +kernel) rfl rfl rfl rfl jk0 ?_
      refine ev_icmp_ne (off := 69) (tgt := 116) (by decide +kernel) (by decide) (fun c11 => ?_) (fun c11 => ?_)
      · replace h := jneg c11 h
        refine ev_seg (o := 6) (nL := 8) (q := 25) (xs := [(.iinc 6 1, 3, 6, 0, .int 1), (.goto (-94), 3, 0, 0, .null)]) (L' := [some (.ref 3), some (.int x1), some (.int x2), some (.int x3), some (.int x4), some (.int x5), some (.int (x6 + 1)), none]) (st' := []) (w' := q4.2) (g := []) (K := []) (by decide +kernel) rfl rfl rfl rfl jk0 ?_
        refine ev_mask [true, true, true, true, true, true, true, false] ?_
        exact ih _ _ _ _ _ _ _ _ h
      · replace h := jpos c11 h
        refine ev_seg (o := 6) (nL := 8) (q := 62) (xs := [(.aload_n 0, 1, 0, 0, .null), (.getfield 54, 3, 6, 11, .ref 8), (.aload_n 0, 1, 0, 0, .null), (.getfield 42, 3, 6, 8, .ref 3), (.iload 6, 2, 6, 0, .null), (.iload 5, 2, 5, 0, .null)]) (L' := [some (.ref 3), some (.int x1), some (.int x2), some (.int x3), some (.int x4), some (.int x5), some (.int x6), none]) (st' := [.int x5, .int x6, .ref 10, .ref 16]) (w' := q4.2) (g := []) (K := [(10, 3), (3, 6), (16, 8), (3, 6)]) (by decide +kernel) rfl rfl rfl rfl (jk1 (kz_10 hk) (jk1 (kz_3 hk) (jk1 (kz_16 hk) (jk1 (kz_3 hk) jk0)))) ?_
        obtain ⟨q5, hq5, h⟩ := jbe h
        refine ev_callV (ci := 8) (a := 16) (y2 := y_Treaty_look) (o := 6) (idx := 106) (d2 := d_Treaty_look) (n := 3) (mc2 := 0) (ms2 := 0) (As := [.ref 10, .int x6, .int x5]) (st := []) (res2 := (none, (jRx kk), q5)) (by decide +kernel) rfl lk_6_106 mo_Treaty_look mv_Treaty_look ⟨Nat.le_of_ble_eq_true rfl, Nat.le_of_ble_eq_true rfl⟩ rfl rfl (kz_16 hk) (by decide) rfl (Nat.le_of_ble_eq_true rfl) ⟨Nat.le_refl _, Nat.le_refl _⟩ hG (e_Treaty_look hG hk (kz_10 hk) hq5) ?_
        refine ev_seg (o := 6) (nL := 8) (q := 72) (xs := [(.aload_n 0, 1, 0, 0, .null), (.getfield 54, 3, 6, 11, .ref 8), (.iload 4, 2, 4, 0, .null), (.iconst 4, 1, 0, 0, .int 4)]) (L' := [some (.ref 3), some (.int x1), some (.int x2), some (.int x3), some (.int x4), some (.int x5), some (.int x6), none]) (st' := [.int 4, .int x4, .ref 16]) (w' := q5) (g := []) (K := [(16, 8), (3, 6)]) (by decide +kernel) rfl rfl rfl rfl (jk1 (kz_16 hk) (jk1 (kz_3 hk) jk0)) ?_
        obtain ⟨q6, hq6, h⟩ := jbe h
        refine ev_callV (ci := 8) (a := 16) (y2 := y_Treaty_someHolds) (o := 6) (idx := 110) (d2 := d_Treaty_someHolds) (n := 2) (mc2 := 0) (ms2 := 0) (As := [.int x4, .int 4]) (st := []) (res2 := (some (.int q6.1), (jRx kk), q6.2)) (by decide +kernel) rfl lk_6_110 mo_Treaty_someHolds mv_Treaty_someHolds ⟨Nat.le_of_ble_eq_true rfl, Nat.le_of_ble_eq_true rfl⟩ rfl rfl (kz_16 hk) (by decide) rfl (Nat.le_of_ble_eq_true rfl) ⟨Nat.le_refl _, Nat.le_refl _⟩ hG (e_Treaty_someHolds hG hk hq6) ?_
        refine ev_if_eq (off := 7) (tgt := 82) (by decide +kernel) (by decide) (fun c10 => ?_) (fun c10 => ?_)
        · replace h := jpos c10 h
          refine ev_seg (o := 6) (nL := 8) (q := 89) (xs := [(.aload_n 0, 1, 0, 0, .null), (.getfield 42, 3, 6, 8, .ref 3), (.iload 6, 2, 6, 0, .null), (.iconst 0, 1, 0, 0, .int 0)]) (L' := [some (.ref 3), some (.int x1), some (.int x2), some (.int x3), some (.int x4), some (.int x5), some (.int x6), none]) (st' := [.int 0, .int x6, .ref 10]) (w' := q6.2) (g := []) (K := [(10, 3), (3, 6)]) (by decide +kernel) rfl rfl rfl rfl (jk1 (kz_10 hk) (jk1 (kz_3 hk) jk0)) ?_
          obtain ⟨q7, hq7, h⟩ := jbe h
          refine ev_callV (ci := 3) (a := 10) (y2 := y_Rows_at) (o := 6) (idx := 91) (d2 := d_Rows_at) (n := 2) (mc2 := 0) (ms2 := 0) (As := [.int x6, .int 0]) (st := []) (res2 := (some (.int q7.1), (jRx kk), q7.2)) (by decide +kernel) rfl lk_6_91 mo_Rows_at mv_Rows_at ⟨Nat.le_of_ble_eq_true rfl, Nat.le_of_ble_eq_true rfl⟩ rfl rfl (kz_10 hk) (by decide) rfl (Nat.le_of_ble_eq_true rfl) ⟨Nat.le_refl _, Nat.le_refl _⟩ hG (e_Rows_at hG hk (kz_10 hk) hq7) ?_
          refine ev_mask [true, true, true, true, true, true, true, false] ?_
          exact t_State_lookAround_j92 hG hk ih h
        · replace h := jneg c10 h
          refine ev_seg (o := 6) (nL := 8) (q := 92) (xs := [(.iconst 4, 1, 0, 0, .int 4), (.goto 13, 3, 0, 0, .null)]) (L' := [some (.ref 3), some (.int x1), some (.int x2), some (.int x3), some (.int x4), some (.int x5), some (.int x6), none]) (st' := [.int 4]) (w' := q6.2) (g := []) (K := []) (by decide +kernel) rfl rfl rfl rfl jk0 ?_
          refine ev_mask [true, true, true, true, true, true, true, false] ?_
          exact t_State_lookAround_j92 hG hk ih h
def f_State_lookAround (x1 : Int32) (x2 : Int32) (x3 : Int32) (w : jW) : Option jW :=
  Option.bind (f_Treaty_textFor 4 x3 w) fun q1 =>
  Option.bind (f_Rows_at 6 x2 1 q1.2) fun q2 =>
  f_State_lookAround_h25 jfu x1 x2 x3 q1.1 q2.1 0 q2.2
set_option maxRecDepth 20000 in
theorem e_State_lookAround {l : Launch} {G : jG} (hG : jX G) {kk : Nat} (hk : 93 ≤ kk) {x1 : Int32} {x2 : Int32} {x3 : Int32} {w : jW} {z : jW} (h : f_State_lookAround x1 x2 x3 w = some z) : Ct l G y_State_lookAround d_State_lookAround 0 0 [.ref 3, .int x1, .int x2, .int x3] (jRx kk) w (none, (jRx kk), z) := by
  rw [f_State_lookAround] at h
  refine Ct.of (L := [some (.ref 3), some (.int x1), some (.int x2), some (.int x3), none, none, none, none]) (by decide) (Nat.le_of_ble_eq_true rfl) rfl ?_
  refine ev_seg (o := 6) (nL := 8) (q := 6) (xs := [(.aload_n 0, 1, 0, 0, .null), (.getfield 54, 3, 6, 11, .ref 8), (.iconst 4, 1, 0, 0, .int 4), (.iload_n 3, 1, 3, 0, .null)]) (L' := [some (.ref 3), some (.int x1), some (.int x2), some (.int x3), none, none, none, none]) (st' := [.int x3, .int 4, .ref 16]) (w' := w) (g := []) (K := [(16, 8), (3, 6)]) (by decide +kernel) rfl rfl rfl rfl (jk1 (kz_16 hk) (jk1 (kz_3 hk) jk0)) ?_
  obtain ⟨q1, hq1, h⟩ := jbe h
  refine ev_callV (ci := 8) (a := 16) (y2 := y_Treaty_textFor) (o := 6) (idx := 113) (d2 := d_Treaty_textFor) (n := 2) (mc2 := 0) (ms2 := 0) (As := [.int 4, .int x3]) (st := []) (res2 := (some (.int q1.1), (jRx kk), q1.2)) (by decide +kernel) rfl lk_6_113 mo_Treaty_textFor mv_Treaty_textFor ⟨Nat.le_of_ble_eq_true rfl, Nat.le_of_ble_eq_true rfl⟩ rfl rfl (kz_16 hk) (by decide) rfl (Nat.le_of_ble_eq_true rfl) ⟨Nat.le_refl _, Nat.le_refl _⟩ hG (e_Treaty_textFor hG hk hq1) ?_
  refine ev_seg (o := 6) (nL := 8) (q := 17) (xs := [(.istore 4, 2, 4, 0, .null), (.aload_n 0, 1, 0, 0, .null), (.getfield 36, 3, 6, 6, .ref 3), (.iload_n 2, 1, 2, 0, .null), (.iconst 1, 1, 0, 0, .int 1)]) (L' := [some (.ref 3), some (.int x1), some (.int x2), some (.int x3), some (.int q1.1), none, none, none]) (st' := [.int 1, .int x2, .ref 6]) (w' := q1.2) (g := []) (K := [(6, 3), (3, 6)]) (by decide +kernel) rfl rfl rfl rfl (jk1 (kz_6 hk) (jk1 (kz_3 hk) jk0)) ?_
  obtain ⟨q2, hq2, h⟩ := jbe h
  refine ev_callV (ci := 3) (a := 6) (y2 := y_Rows_at) (o := 6) (idx := 91) (d2 := d_Rows_at) (n := 2) (mc2 := 0) (ms2 := 0) (As := [.int x2, .int 1]) (st := []) (res2 := (some (.int q2.1), (jRx kk), q2.2)) (by decide +kernel) rfl lk_6_91 mo_Rows_at mv_Rows_at ⟨Nat.le_of_ble_eq_true rfl, Nat.le_of_ble_eq_true rfl⟩ rfl rfl (kz_6 hk) (by decide) rfl (Nat.le_of_ble_eq_true rfl) ⟨Nat.le_refl _, Nat.le_refl _⟩ hG (e_Rows_at hG hk (kz_6 hk) hq2) ?_
  refine ev_seg (o := 6) (nL := 8) (q := 25) (xs := [(.istore 5, 2, 5, 0, .null), (.iconst 0, 1, 0, 0, .int 0), (.istore 6, 2, 6, 0, .null)]) (L' := [some (.ref 3), some (.int x1), some (.int x2), some (.int x3), some (.int q1.1), some (.int q2.1), some (.int 0), none]) (st' := []) (w' := q2.2) (g := []) (K := []) (by decide +kernel) rfl rfl rfl rfl jk0 ?_
  refine ev_mask [true, true, true, true, true, true, true, false] ?_
  exact t_State_lookAround_h25 hG hk jfu _ _ _ _ _ _ _ _ h
def f_State_lookAtSeal_j33 (x1 : Int32) (x4 : Int32) (s0 : Int32) (w : jW) : Option jW :=
  Option.bind (f_Rows_put 26 x1 5 s0 w) fun q3 =>
  Option.bind (f_Rows_at 14 x4 1 q3) fun q4 =>
  Option.bind (f_Rows_put 26 x1 9 q4.1 q4.2) fun q5 =>
  some q5
set_option maxRecDepth 20000 in
theorem t_State_lookAtSeal_j33 {l : Launch} {G : jG} (hG : jX G) {kk : Nat} (hk : 93 ≤ kk) {x1 : Int32} {x4 : Int32} {s0 : Int32} {w : jW} {z : jW} (h : f_State_lookAtSeal_j33 x1 x4 s0 w = some z) : Ev l G (jrm d_State_lookAtSeal 0 0) y_State_lookAtSeal (none, (jRx kk), z) 0 0 0 0 33 [some (.ref 3), some (.int x1), none, none, some (.int x4), none] [.int s0] (jRx kk) w := by
  rw [f_State_lookAtSeal_j33] at h
  refine ev_seg (o := 6) (nL := 6) (q := 43) (xs := [(.istore 5, 2, 5, 0, .null), (.aload_n 0, 1, 0, 0, .null), (.getfield 61, 3, 6, 13, .ref 3), (.iload_n 1, 1, 1, 0, .null), (.iconst 5, 1, 0, 0, .int 5), (.iload 5, 2, 5, 0, .null)]) (L' := [some (.ref 3), some (.int x1), none, none, some (.int x4), some (.int s0)]) (st' := [.int s0, .int 5, .int x1, .ref 26]) (w' := w) (g := []) (K := [(26, 3), (3, 6)]) (by decide +kernel) rfl rfl rfl rfl (jk1 (kz_26 hk) (jk1 (kz_3 hk) jk0)) ?_
  obtain ⟨q3, hq3, h⟩ := jbe h
  refine ev_callV (ci := 3) (a := 26) (y2 := y_Rows_put) (o := 6) (idx := 83) (d2 := d_Rows_put) (n := 3) (mc2 := 0) (ms2 := 0) (As := [.int x1, .int 5, .int s0]) (st := []) (res2 := (none, (jRx kk), q3)) (by decide +kernel) rfl lk_6_83 mo_Rows_put mv_Rows_put ⟨Nat.le_of_ble_eq_true rfl, Nat.le_of_ble_eq_true rfl⟩ rfl rfl (kz_26 hk) (by decide) rfl (Nat.le_of_ble_eq_true rfl) ⟨Nat.le_refl _, Nat.le_refl _⟩ hG (e_Rows_put hG hk (kz_26 hk) hq3) ?_
  refine ev_seg (o := 6) (nL := 6) (q := 60) (xs := [(.aload_n 0, 1, 0, 0, .null), (.getfield 61, 3, 6, 13, .ref 3), (.iload_n 1, 1, 1, 0, .null), (.bipush 9, 2, 0, 0, .int 9), (.aload_n 0, 1, 0, 0, .null), (.getfield 48, 3, 6, 10, .ref 3), (.iload 4, 2, 4, 0, .null), (.iconst 1, 1, 0, 0, .int 1)]) (L' := [some (.ref 3), some (.int x1), none, none, some (.int x4), some (.int s0)]) (st' := [.int 1, .int x4, .ref 14, .int 9, .int x1, .ref 26]) (w' := q3) (g := []) (K := [(14, 3), (3, 6), (26, 3), (3, 6)]) (by decide +kernel) rfl rfl rfl rfl (jk1 (kz_14 hk) (jk1 (kz_3 hk) (jk1 (kz_26 hk) (jk1 (kz_3 hk) jk0)))) ?_
  obtain ⟨q4, hq4, h⟩ := jbe h
  refine ev_callV (ci := 3) (a := 14) (y2 := y_Rows_at) (o := 6) (idx := 91) (d2 := d_Rows_at) (n := 2) (mc2 := 0) (ms2 := 0) (As := [.int x4, .int 1]) (st := [.int 9, .int x1, .ref 26]) (res2 := (some (.int q4.1), (jRx kk), q4.2)) (by decide +kernel) rfl lk_6_91 mo_Rows_at mv_Rows_at ⟨Nat.le_of_ble_eq_true rfl, Nat.le_of_ble_eq_true rfl⟩ rfl rfl (kz_14 hk) (by decide) rfl (Nat.le_of_ble_eq_true rfl) ⟨Nat.le_refl _, Nat.le_refl _⟩ hG (e_Rows_at hG hk (kz_14 hk) hq4) ?_
  obtain ⟨q5, hq5, h⟩ := jbe h
  refine ev_callV (ci := 3) (a := 26) (y2 := y_Rows_put) (o := 6) (idx := 83) (d2 := d_Rows_put) (n := 3) (mc2 := 0) (ms2 := 0) (As := [.int x1, .int 9, .int q4.1]) (st := []) (res2 := (none, (jRx kk), q5)) (by decide +kernel) rfl lk_6_83 mo_Rows_put mv_Rows_put ⟨Nat.le_of_ble_eq_true rfl, Nat.le_of_ble_eq_true rfl⟩ rfl rfl (kz_26 hk) (by decide) rfl (Nat.le_of_ble_eq_true rfl) ⟨Nat.le_refl _, Nat.le_refl _⟩ hG (e_Rows_put hG hk (kz_26 hk) hq5) ?_
  cases h
  exact ev_vret (by decide +kernel) rfl rfl rfl rfl
def f_State_lookAtSeal (x1 : Int32) (x2 : Int32) (x3 : Int32) (w : jW) : Option jW :=
  Option.bind (f_State_latestSeal x2 x3 w) fun q1 =>
  if q1.1 = (-1) then
    f_State_lookAtSeal_j33 x1 q1.1 (-1) q1.2
  else
    Option.bind (f_State_isWhole q1.1 x3 q1.2) fun q2 =>
    if q2.1 = 0 then
      f_State_lookAtSeal_j33 x1 q1.1 0 q2.2
    else
      f_State_lookAtSeal_j33 x1 q1.1 1 q2.2
set_option maxRecDepth 20000 in
theorem e_State_lookAtSeal {l : Launch} {G : jG} (hG : jX G) {kk : Nat} (hk : 93 ≤ kk) {x1 : Int32} {x2 : Int32} {x3 : Int32} {w : jW} {z : jW} (h : f_State_lookAtSeal x1 x2 x3 w = some z) : Ct l G y_State_lookAtSeal d_State_lookAtSeal 0 0 [.ref 3, .int x1, .int x2, .int x3] (jRx kk) w (none, (jRx kk), z) := by
  rw [f_State_lookAtSeal] at h
  refine Ct.of (L := [some (.ref 3), some (.int x1), some (.int x2), some (.int x3), none, none]) (by decide) (Nat.le_of_ble_eq_true rfl) rfl ?_
  refine ev_seg (o := 6) (nL := 6) (q := 3) (xs := [(.aload_n 0, 1, 0, 0, .null), (.iload_n 2, 1, 2, 0, .null), (.iload_n 3, 1, 3, 0, .null)]) (L' := [some (.ref 3), some (.int x1), some (.int x2), some (.int x3), none, none]) (st' := [.int x3, .int x2, .ref 3]) (w' := w) (g := []) (K := []) (by decide +kernel) rfl rfl rfl rfl jk0 ?_
  obtain ⟨q1, hq1, h⟩ := jbe h
  refine ev_callV (ci := 6) (a := 3) (y2 := y_State_latestSeal) (o := 6) (idx := 99) (d2 := d_State_latestSeal) (n := 2) (mc2 := 0) (ms2 := 0) (As := [.int x2, .int x3]) (st := []) (res2 := (some (.int q1.1), (jRx kk), q1.2)) (by decide +kernel) rfl lk_6_99 mo_State_latestSeal mv_State_latestSeal ⟨Nat.le_of_ble_eq_true rfl, Nat.le_of_ble_eq_true rfl⟩ rfl rfl (kz_3 hk) (by decide) rfl (Nat.le_of_ble_eq_true rfl) ⟨Nat.le_refl _, Nat.le_refl _⟩ hG (e_State_latestSeal hG hk hq1) ?_
  refine ev_seg (o := 6) (nL := 6) (q := 11) (xs := [(.istore 4, 2, 4, 0, .null), (.iload 4, 2, 4, 0, .null), (.iconst (-1), 1, 0, 0, .int (-1))]) (L' := [some (.ref 3), some (.int x1), some (.int x2), some (.int x3), some (.int q1.1), none]) (st' := [.int (-1), .int q1.1]) (w' := q1.2) (g := []) (K := []) (by decide +kernel) rfl rfl rfl rfl jk0 ?_
  refine ev_icmp_ne (off := 7) (tgt := 18) (by decide +kernel) (by decide) (fun c7 => ?_) (fun c7 => ?_)
  · replace h := jneg c7 h
    refine ev_seg (o := 6) (nL := 6) (q := 22) (xs := [(.aload_n 0, 1, 0, 0, .null), (.iload 4, 2, 4, 0, .null), (.iload_n 3, 1, 3, 0, .null)]) (L' := [some (.ref 3), some (.int x1), some (.int x2), some (.int x3), some (.int q1.1), none]) (st' := [.int x3, .int q1.1, .ref 3]) (w' := q1.2) (g := []) (K := []) (by decide +kernel) rfl rfl rfl rfl jk0 ?_
    obtain ⟨q2, hq2, h⟩ := jbe h
    refine ev_callV (ci := 6) (a := 3) (y2 := y_State_isWhole) (o := 6) (idx := 102) (d2 := d_State_isWhole) (n := 2) (mc2 := 0) (ms2 := 0) (As := [.int q1.1, .int x3]) (st := []) (res2 := (some (.int q2.1), (jRx kk), q2.2)) (by decide +kernel) rfl lk_6_102 mo_State_isWhole mv_State_isWhole ⟨Nat.le_of_ble_eq_true rfl, Nat.le_of_ble_eq_true rfl⟩ rfl rfl (kz_3 hk) (by decide) rfl (Nat.le_of_ble_eq_true rfl) ⟨Nat.le_refl _, Nat.le_refl _⟩ hG (e_State_isWhole hG hk hq2) ?_
    refine ev_if_eq (off := 7) (tgt := 32) (by decide +kernel) (by decide) (fun c6 => ?_) (fun c6 => ?_)
    · replace h := jpos c6 h
      refine ev_seg (o := 6) (nL := 6) (q := 33) (xs := [(.iconst 0, 1, 0, 0, .int 0)]) (L' := [some (.ref 3), some (.int x1), some (.int x2), some (.int x3), some (.int q1.1), none]) (st' := [.int 0]) (w' := q2.2) (g := []) (K := []) (by decide +kernel) rfl rfl rfl rfl jk0 ?_
      refine ev_mask [true, true, false, false, true, false] ?_
      exact t_State_lookAtSeal_j33 hG hk h
    · replace h := jneg c6 h
      refine ev_seg (o := 6) (nL := 6) (q := 33) (xs := [(.iconst 1, 1, 0, 0, .int 1), (.goto 4, 3, 0, 0, .null)]) (L' := [some (.ref 3), some (.int x1), some (.int x2), some (.int x3), some (.int q1.1), none]) (st' := [.int 1]) (w' := q2.2) (g := []) (K := []) (by decide +kernel) rfl rfl rfl rfl jk0 ?_
      refine ev_mask [true, true, false, false, true, false] ?_
      exact t_State_lookAtSeal_j33 hG hk h
  · replace h := jpos c7 h
    refine ev_seg (o := 6) (nL := 6) (q := 33) (xs := [(.iconst (-1), 1, 0, 0, .int (-1)), (.goto 18, 3, 0, 0, .null)]) (L' := [some (.ref 3), some (.int x1), some (.int x2), some (.int x3), some (.int q1.1), none]) (st' := [.int (-1)]) (w' := q1.2) (g := []) (K := []) (by decide +kernel) rfl rfl rfl rfl jk0 ?_
    refine ev_mask [true, true, false, false, true, false] ?_
    exact t_State_lookAtSeal_j33 hG hk h
def f_Count_visit (x1 : Int32) (x2 : Int32) (w : jW) : Option (Int32 × jW) :=
  Option.bind (f_Count_isAbroad x1 x2 w) fun q1 =>
  if q1.1 = 0 then
    some ((-1), q1.2)
  else
    if (q1.2.1 3 0) = 0 then
      some ((-1), q1.2)
    else
      Option.bind (f_Rows_isFull 26 q1.2) fun q2 =>
      if q2.1 = 0 then
        Option.bind (f_Rows_open 26 0 q2.2) fun q3 =>
        Option.bind (f_Rows_put 26 q3.1 6 (q3.2.1 3 0) q3.2) fun q4 =>
        Option.bind (f_Rows_put 26 q3.1 7 x1 q4) fun q5 =>
        Option.bind (f_Rows_put 26 q3.1 8 x2 q5) fun q6 =>
        Option.bind (f_State_lookAround q3.1 x2 (q6.1 3 0) q6) fun q7 =>
        Option.bind (f_State_lookAtSeal q3.1 x2 ((q7.1 3 0) - 1) q7) fun q8 =>
        Option.bind (f_State_addAct 4 x1 x2 q3.1 q8) fun q9 =>
        some (q3.1, q9)
      else
        some ((-1), q2.2)
set_option maxRecDepth 20000 in
theorem e_Count_visit {l : Launch} {G : jG} (hG : jX G) {kk : Nat} (hk : 93 ≤ kk) {x1 : Int32} {x2 : Int32} {w : jW} {z : (Int32 × jW)} (h : f_Count_visit x1 x2 w = some z) : Ct l G y_Count_visit d_Count_visit 0 0 [.ref 2, .int x1, .int x2] (jRx kk) w (some (.int z.1), (jRx kk), z.2) := by
  rw [f_Count_visit] at h
  refine Ct.of (L := [some (.ref 2), some (.int x1), some (.int x2), none]) (by decide) (Nat.le_of_ble_eq_true rfl) rfl ?_
  refine ev_seg (o := 9) (nL := 4) (q := 3) (xs := [(.aload_n 0, 1, 0, 0, .null), (.iload_n 1, 1, 1, 0, .null), (.iload_n 2, 1, 2, 0, .null)]) (L' := [some (.ref 2), some (.int x1), some (.int x2), none]) (st' := [.int x2, .int x1, .ref 2]) (w' := w) (g := []) (K := []) (by decide +kernel) rfl rfl rfl rfl jk0 ?_
  obtain ⟨q1, hq1, h⟩ := jbe h
  refine ev_callV (ci := 9) (a := 2) (y2 := y_Count_isAbroad) (o := 9) (idx := 218) (d2 := d_Count_isAbroad) (n := 2) (mc2 := 0) (ms2 := 0) (As := [.int x1, .int x2]) (st := []) (res2 := (some (.int q1.1), (jRx kk), q1.2)) (by decide +kernel) rfl lk_9_218 mo_Count_isAbroad mv_Count_isAbroad ⟨Nat.le_of_ble_eq_true rfl, Nat.le_of_ble_eq_true rfl⟩ rfl rfl (kz_2 hk) (by decide) rfl (Nat.le_of_ble_eq_true rfl) ⟨Nat.le_refl _, Nat.le_refl _⟩ hG (e_Count_isAbroad hG hk hq1) ?_
  refine ev_if_eq (off := 26) (tgt := 32) (by decide +kernel) (by decide) (fun c12 => ?_) (fun c12 => ?_)
  · replace h := jpos c12 h
    refine ev_seg (o := 9) (nL := 4) (q := 33) (xs := [(.iconst (-1), 1, 0, 0, .int (-1))]) (L' := [some (.ref 2), some (.int x1), some (.int x2), none]) (st' := [.int (-1)]) (w' := q1.2) (g := []) (K := []) (by decide +kernel) rfl rfl rfl rfl jk0 ?_
    cases h
    exact ev_iret (by decide +kernel) rfl rfl rfl rfl
  · replace h := jneg c12 h
    refine ev_seg (o := 9) (nL := 4) (q := 16) (xs := [(.aload_n 0, 1, 0, 0, .null), (.getfield 12, 3, 9, 0, .ref 6), (.getfield 119, 3, 6, 0, .int 0)]) (L' := [some (.ref 2), some (.int x1), some (.int x2), none]) (st' := [.int (q1.2.1 3 0)]) (w' := q1.2) (g := []) (K := [(3, 6), (3, 6), (2, 9)]) (by decide +kernel) rfl rfl rfl rfl (jk1 (kz_3 hk) (jk1 (kz_3 hk) (jk1 (kz_2 hk) jk0))) ?_
    refine ev_if_eq (off := 16) (tgt := 32) (by decide +kernel) (by decide) (fun c11 => ?_) (fun c11 => ?_)
    · replace h := jpos c11 h
      refine ev_seg (o := 9) (nL := 4) (q := 33) (xs := [(.iconst (-1), 1, 0, 0, .int (-1))]) (L' := [some (.ref 2), some (.int x1), some (.int x2), none]) (st' := [.int (-1)]) (w' := q1.2) (g := []) (K := []) (by decide +kernel) rfl rfl rfl rfl jk0 ?_
      cases h
      exact ev_iret (by decide +kernel) rfl rfl rfl rfl
    · replace h := jneg c11 h
      refine ev_seg (o := 9) (nL := 4) (q := 26) (xs := [(.aload_n 0, 1, 0, 0, .null), (.getfield 12, 3, 9, 0, .ref 6), (.getfield 221, 3, 6, 13, .ref 3)]) (L' := [some (.ref 2), some (.int x1), some (.int x2), none]) (st' := [.ref 26]) (w' := q1.2) (g := []) (K := [(26, 3), (3, 6), (3, 6), (2, 9)]) (by decide +kernel) rfl rfl rfl rfl (jk1 (kz_26 hk) (jk1 (kz_3 hk) (jk1 (kz_3 hk) (jk1 (kz_2 hk) jk0)))) ?_
      obtain ⟨q2, hq2, h⟩ := jbe h
      refine ev_callV (ci := 3) (a := 26) (y2 := y_Rows_isFull) (o := 9) (idx := 62) (d2 := d_Rows_isFull) (n := 0) (mc2 := 0) (ms2 := 0) (As := []) (st := []) (res2 := (some (.int q2.1), (jRx kk), q2.2)) (by decide +kernel) rfl lk_9_62 mo_Rows_isFull mv_Rows_isFull ⟨Nat.le_of_ble_eq_true rfl, Nat.le_of_ble_eq_true rfl⟩ rfl rfl (kz_26 hk) (by decide) rfl (Nat.le_of_ble_eq_true rfl) ⟨Nat.le_refl _, Nat.le_refl _⟩ hG (e_Rows_isFull hG hk (kz_26 hk) hq2) ?_
      refine ev_if_eq (off := 5) (tgt := 34) (by decide +kernel) (by decide) (fun c10 => ?_) (fun c10 => ?_)
      · replace h := jpos c10 h
        refine ev_seg (o := 9) (nL := 4) (q := 42) (xs := [(.aload_n 0, 1, 0, 0, .null), (.getfield 12, 3, 9, 0, .ref 6), (.getfield 221, 3, 6, 13, .ref 3), (.iconst 0, 1, 0, 0, .int 0)]) (L' := [some (.ref 2), some (.int x1), some (.int x2), none]) (st' := [.int 0, .ref 26]) (w' := q2.2) (g := []) (K := [(26, 3), (3, 6), (3, 6), (2, 9)]) (by decide +kernel) rfl rfl rfl rfl (jk1 (kz_26 hk) (jk1 (kz_3 hk) (jk1 (kz_3 hk) (jk1 (kz_2 hk) jk0)))) ?_
        obtain ⟨q3, hq3, h⟩ := jbe h
        refine ev_callV (ci := 3) (a := 26) (y2 := y_Rows_open) (o := 9) (idx := 68) (d2 := d_Rows_open) (n := 1) (mc2 := 0) (ms2 := 0) (As := [.int 0]) (st := []) (res2 := (some (.int q3.1), (jRx kk), q3.2)) (by decide +kernel) rfl lk_9_68 mo_Rows_open mv_Rows_open ⟨Nat.le_of_ble_eq_true rfl, Nat.le_of_ble_eq_true rfl⟩ rfl rfl (kz_26 hk) (by decide) rfl (Nat.le_of_ble_eq_true rfl) ⟨Nat.le_refl _, Nat.le_refl _⟩ hG (e_Rows_open hG hk (kz_26 hk) hq3) ?_
        refine ev_seg (o := 9) (nL := 4) (q := 63) (xs := [(.istore_n 3, 1, 3, 0, .null), (.aload_n 0, 1, 0, 0, .null), (.getfield 12, 3, 9, 0, .ref 6), (.getfield 221, 3, 6, 13, .ref 3), (.iload_n 3, 1, 3, 0, .null), (.bipush 6, 2, 0, 0, .int 6), (.aload_n 0, 1, 0, 0, .null), (.getfield 12, 3, 9, 0, .ref 6), (.getfield 119, 3, 6, 0, .int 0)]) (L' := [some (.ref 2), some (.int x1), some (.int x2), some (.int q3.1)]) (st' := [.int (q3.2.1 3 0), .int 6, .int q3.1, .ref 26]) (w' := q3.2) (g := []) (K := [(3, 6), (3, 6), (2, 9), (26, 3), (3, 6), (3, 6), (2, 9)]) (by decide +kernel) rfl rfl rfl rfl (jk1 (kz_3 hk) (jk1 (kz_3 hk) (jk1 (kz_2 hk) (jk1 (kz_26 hk) (jk1 (kz_3 hk) (jk1 (kz_3 hk) (jk1 (kz_2 hk) jk0))))))) ?_
        obtain ⟨q4, hq4, h⟩ := jbe h
        refine ev_callV (ci := 3) (a := 26) (y2 := y_Rows_put) (o := 9) (idx := 72) (d2 := d_Rows_put) (n := 3) (mc2 := 0) (ms2 := 0) (As := [.int q3.1, .int 6, .int (q3.2.1 3 0)]) (st := []) (res2 := (none, (jRx kk), q4)) (by decide +kernel) rfl lk_9_72 mo_Rows_put mv_Rows_put ⟨Nat.le_of_ble_eq_true rfl, Nat.le_of_ble_eq_true rfl⟩ rfl rfl (kz_26 hk) (by decide) rfl (Nat.le_of_ble_eq_true rfl) ⟨Nat.le_refl _, Nat.le_refl _⟩ hG (e_Rows_put hG hk (kz_26 hk) hq4) ?_
        refine ev_seg (o := 9) (nL := 4) (q := 77) (xs := [(.aload_n 0, 1, 0, 0, .null), (.getfield 12, 3, 9, 0, .ref 6), (.getfield 221, 3, 6, 13, .ref 3), (.iload_n 3, 1, 3, 0, .null), (.bipush 7, 2, 0, 0, .int 7), (.iload_n 1, 1, 1, 0, .null)]) (L' := [some (.ref 2), some (.int x1), some (.int x2), some (.int q3.1)]) (st' := [.int x1, .int 7, .int q3.1, .ref 26]) (w' := q4) (g := []) (K := [(26, 3), (3, 6), (3, 6), (2, 9)]) (by decide +kernel) rfl rfl rfl rfl (jk1 (kz_26 hk) (jk1 (kz_3 hk) (jk1 (kz_3 hk) (jk1 (kz_2 hk) jk0)))) ?_
        obtain ⟨q5, hq5, h⟩ := jbe h
        refine ev_callV (ci := 3) (a := 26) (y2 := y_Rows_put) (o := 9) (idx := 72) (d2 := d_Rows_put) (n := 3) (mc2 := 0) (ms2 := 0) (As := [.int q3.1, .int 7, .int x1]) (st := []) (res2 := (none, (jRx kk), q5)) (by decide +kernel) rfl lk_9_72 mo_Rows_put mv_Rows_put ⟨Nat.le_of_ble_eq_true rfl, Nat.le_of_ble_eq_true rfl⟩ rfl rfl (kz_26 hk) (by decide) rfl (Nat.le_of_ble_eq_true rfl) ⟨Nat.le_refl _, Nat.le_refl _⟩ hG (e_Rows_put hG hk (kz_26 hk) hq5) ?_
        refine ev_seg (o := 9) (nL := 4) (q := 91) (xs := [(.aload_n 0, 1, 0, 0, .null), (.getfield 12, 3, 9, 0, .ref 6), (.getfield 221, 3, 6, 13, .ref 3), (.iload_n 3, 1, 3, 0, .null), (.bipush 8, 2, 0, 0, .int 8), (.iload_n 2, 1, 2, 0, .null)]) (L' := [some (.ref 2), some (.int x1), some (.int x2), some (.int q3.1)]) (st' := [.int x2, .int 8, .int q3.1, .ref 26]) (w' := q5) (g := []) (K := [(26, 3), (3, 6), (3, 6), (2, 9)]) (by decide +kernel) rfl rfl rfl rfl (jk1 (kz_26 hk) (jk1 (kz_3 hk) (jk1 (kz_3 hk) (jk1 (kz_2 hk) jk0)))) ?_
        obtain ⟨q6, hq6, h⟩ := jbe h
        refine ev_callV (ci := 3) (a := 26) (y2 := y_Rows_put) (o := 9) (idx := 72) (d2 := d_Rows_put) (n := 3) (mc2 := 0) (ms2 := 0) (As := [.int q3.1, .int 8, .int x2]) (st := []) (res2 := (none, (jRx kk), q6)) (by decide +kernel) rfl lk_9_72 mo_Rows_put mv_Rows_put ⟨Nat.le_of_ble_eq_true rfl, Nat.le_of_ble_eq_true rfl⟩ rfl rfl (kz_26 hk) (by decide) rfl (Nat.le_of_ble_eq_true rfl) ⟨Nat.le_refl _, Nat.le_refl _⟩ hG (e_Rows_put hG hk (kz_26 hk) hq6) ?_
        refine ev_seg (o := 9) (nL := 4) (q := 107) (xs := [(.aload_n 0, 1, 0, 0, .null), (.getfield 12, 3, 9, 0, .ref 6), (.iload_n 3, 1, 3, 0, .null), (.iload_n 2, 1, 2, 0, .null), (.aload_n 0, 1, 0, 0, .null), (.getfield 12, 3, 9, 0, .ref 6), (.getfield 119, 3, 6, 0, .int 0)]) (L' := [some (.ref 2), some (.int x1), some (.int x2), some (.int q3.1)]) (st' := [.int (q6.1 3 0), .int x2, .int q3.1, .ref 3]) (w' := q6) (g := []) (K := [(3, 6), (3, 6), (2, 9), (3, 6), (2, 9)]) (by decide +kernel) rfl rfl rfl rfl (jk1 (kz_3 hk) (jk1 (kz_3 hk) (jk1 (kz_2 hk) (jk1 (kz_3 hk) (jk1 (kz_2 hk) jk0))))) ?_
        obtain ⟨q7, hq7, h⟩ := jbe h
        refine ev_callV (ci := 6) (a := 3) (y2 := y_State_lookAround) (o := 9) (idx := 224) (d2 := d_State_lookAround) (n := 3) (mc2 := 0) (ms2 := 0) (As := [.int q3.1, .int x2, .int (q6.1 3 0)]) (st := []) (res2 := (none, (jRx kk), q7)) (by decide +kernel) rfl lk_9_224 mo_State_lookAround mv_State_lookAround ⟨Nat.le_of_ble_eq_true rfl, Nat.le_of_ble_eq_true rfl⟩ rfl rfl (kz_3 hk) (by decide) rfl (Nat.le_of_ble_eq_true rfl) ⟨Nat.le_refl _, Nat.le_refl _⟩ hG (e_State_lookAround hG hk hq7) ?_
        refine ev_seg (o := 9) (nL := 4) (q := 125) (xs := [(.aload_n 0, 1, 0, 0, .null), (.getfield 12, 3, 9, 0, .ref 6), (.iload_n 3, 1, 3, 0, .null), (.iload_n 2, 1, 2, 0, .null), (.aload_n 0, 1, 0, 0, .null), (.getfield 12, 3, 9, 0, .ref 6), (.getfield 119, 3, 6, 0, .int 0), (.iconst 1, 1, 0, 0, .int 1), (.isub, 1, 0, 0, .null)]) (L' := [some (.ref 2), some (.int x1), some (.int x2), some (.int q3.1)]) (st' := [.int ((q7.1 3 0) - 1), .int x2, .int q3.1, .ref 3]) (w' := q7) (g := []) (K := [(3, 6), (3, 6), (2, 9), (3, 6), (2, 9)]) (by decide +kernel) rfl rfl rfl rfl (jk1 (kz_3 hk) (jk1 (kz_3 hk) (jk1 (kz_2 hk) (jk1 (kz_3 hk) (jk1 (kz_2 hk) jk0))))) ?_
        obtain ⟨q8, hq8, h⟩ := jbe h
        refine ev_callV (ci := 6) (a := 3) (y2 := y_State_lookAtSeal) (o := 9) (idx := 227) (d2 := d_State_lookAtSeal) (n := 3) (mc2 := 0) (ms2 := 0) (As := [.int q3.1, .int x2, .int ((q7.1 3 0) - 1)]) (st := []) (res2 := (none, (jRx kk), q8)) (by decide +kernel) rfl lk_9_227 mo_State_lookAtSeal mv_State_lookAtSeal ⟨Nat.le_of_ble_eq_true rfl, Nat.le_of_ble_eq_true rfl⟩ rfl rfl (kz_3 hk) (by decide) rfl (Nat.le_of_ble_eq_true rfl) ⟨Nat.le_refl _, Nat.le_refl _⟩ hG (e_State_lookAtSeal hG hk hq8) ?_
        refine ev_seg (o := 9) (nL := 4) (q := 136) (xs := [(.aload_n 0, 1, 0, 0, .null), (.getfield 12, 3, 9, 0, .ref 6), (.iconst 4, 1, 0, 0, .int 4), (.iload_n 1, 1, 1, 0, .null), (.iload_n 2, 1, 2, 0, .null), (.iload_n 3, 1, 3, 0, .null)]) (L' := [some (.ref 2), some (.int x1), some (.int x2), some (.int q3.1)]) (st' := [.int q3.1, .int x2, .int x1, .int 4, .ref 3]) (w' := q8) (g := []) (K := [(3, 6), (2, 9)]) (by decide +kernel) rfl rfl rfl rfl (jk1 (kz_3 hk) (jk1 (kz_2 hk) jk0)) ?_
        obtain ⟨q9, hq9, h⟩ := jbe h
        refine ev_callV (ci := 6) (a := 3) (y2 := y_State_addAct) (o := 9) (idx := 122) (d2 := d_State_addAct) (n := 4) (mc2 := 0) (ms2 := 0) (As := [.int 4, .int x1, .int x2, .int q3.1]) (st := []) (res2 := (none, (jRx kk), q9)) (by decide +kernel) rfl lk_9_122 mo_State_addAct mv_State_addAct ⟨Nat.le_of_ble_eq_true rfl, Nat.le_of_ble_eq_true rfl⟩ rfl rfl (kz_3 hk) (by decide) rfl (Nat.le_of_ble_eq_true rfl) ⟨Nat.le_refl _, Nat.le_refl _⟩ hG (e_State_addAct hG hk hq9) ?_
        refine ev_seg (o := 9) (nL := 4) (q := 140) (xs := [(.iload_n 3, 1, 3, 0, .null)]) (L' := [some (.ref 2), some (.int x1), some (.int x2), some (.int q3.1)]) (st' := [.int q3.1]) (w' := q9) (g := []) (K := []) (by decide +kernel) rfl rfl rfl rfl jk0 ?_
        cases h
        exact ev_iret (by decide +kernel) rfl rfl rfl rfl
      · replace h := jneg c10 h
        refine ev_seg (o := 9) (nL := 4) (q := 33) (xs := [(.iconst (-1), 1, 0, 0, .int (-1))]) (L' := [some (.ref 2), some (.int x1), some (.int x2), none]) (st' := [.int (-1)]) (w' := q2.2) (g := []) (K := []) (by decide +kernel) rfl rfl rfl rfl jk0 ?_
        cases h
        exact ev_iret (by decide +kernel) rfl rfl rfl rfl
def f_State_hasSpot_h2 (a0 : Nat) : Nat → Int32 → Int32 → Int32 → jW → Option (Int32 × jW)
  | 0, _, _, _, _ => none
  | n + 1, x1, x2, x3, w =>
  Option.bind (f_Rows_count a0 w) fun q1 =>
  if x3 < q1.1 then
    Option.bind (f_Rows_at a0 x3 0 q1.2) fun q2 =>
    if q2.1 = x1 then
      Option.bind (f_Rows_at a0 x3 1 q2.2) fun q3 =>
      if q3.1 = x2 then
        some (1, q3.2)
      else
        (f_State_hasSpot_h2 a0 n) x1 x2 (x3 + 1) q3.2
    else
      (f_State_hasSpot_h2 a0 n) x1 x2 (x3 + 1) q2.2
  else
    some (0, q1.2)
set_option maxRecDepth 20000 in
theorem t_State_hasSpot_h2 {l : Launch} {G : jG} (hG : jX G) {kk : Nat} (hk : 93 ≤ kk) {a0 : Nat} (h_a0 : jSk (jRx kk) a0 = 3) : ∀ (n : Nat) (x1 : Int32) (x2 : Int32) (x3 : Int32) (w : jW) (z : (Int32 × jW)), f_State_hasSpot_h2 a0 n x1 x2 x3 w = some z → Ev l G (jrm d_State_hasSpot 0 0) y_State_hasSpot (some (.int z.1), (jRx kk), z.2) 0 0 0 0 2 [some (.ref a0), some (.int x1), some (.int x2), some (.int x3)] [] (jRx kk) w := by
  intro n
  induction n with
  | zero => intro x1 x2 x3 w z h; simp only [f_State_hasSpot_h2] at h; cases h
  | succ n ih =>
    intro x1 x2 x3 w z h
    rw [f_State_hasSpot_h2] at h
    refine ev_seg (o := 6) (nL := 4) (q := 4) (xs := [(.iload_n 3, 1, 3, 0, .null), (.aload_n 0, 1, 0, 0, .null)]) (L' := [some (.ref a0), some (.int x1), some (.int x2), some (.int x3)]) (st' := [.ref a0, .int x3]) (w' := w) (g := []) (K := []) (by decide +kernel) rfl rfl rfl rfl jk0 ?_
    obtain ⟨q1, hq1, h⟩ := jbe h
    refine ev_callV (ci := 3) (a := a0) (y2 := y_Rows_count) (o := 6) (idx := 87) (d2 := d_Rows_count) (n := 0) (mc2 := 0) (ms2 := 0) (As := []) (st := [.int x3]) (res2 := (some (.int q1.1), (jRx kk), q1.2)) (by decide +kernel) rfl lk_6_87 mo_Rows_count mv_Rows_count ⟨Nat.le_of_ble_eq_true rfl, Nat.le_of_ble_eq_true rfl⟩ rfl rfl h_a0 (by decide) rfl (Nat.le_of_ble_eq_true rfl) ⟨Nat.le_refl _, Nat.le_refl _⟩ hG (e_Rows_count hG hk h_a0 hq1) ?_
    refine ev_icmp_ge (off := 31) (tgt := 38) (by decide +kernel) (by decide) (fun c6 => ?_) (fun c6 => ?_)
    · replace h := jneg c6 h
      refine ev_seg (o := 6) (nL := 4) (q := 39) (xs := [(.iconst 0, 1, 0, 0, .int 0)]) (L' := [some (.ref a0), some (.int x1), some (.int x2), some (.int x3)]) (st' := [.int 0]) (w' := q1.2) (g := []) (K := []) (by decide +kernel) rfl rfl rfl rfl jk0 ?_
      cases h
      exact ev_zret (by decide +kernel) rfl rfl rfl rfl rfl
    · replace h := jpos c6 h
      refine ev_seg (o := 6) (nL := 4) (q := 13) (xs := [(.aload_n 0, 1, 0, 0, .null), (.iload_n 3, 1, 3, 0, .null), (.iconst 0, 1, 0, 0, .int 0)]) (L' := [some (.ref a0), some (.int x1), some (.int x2), some (.int x3)]) (st' := [.int 0, .int x3, .ref a0]) (w' := q1.2) (g := []) (K := []) (by decide +kernel) rfl rfl rfl rfl jk0 ?_
      obtain ⟨q2, hq2, h⟩ := jbe h
      refine ev_callV (ci := 3) (a := a0) (y2 := y_Rows_at) (o := 6) (idx := 91) (d2 := d_Rows_at) (n := 2) (mc2 := 0) (ms2 := 0) (As := [.int x3, .int 0]) (st := []) (res2 := (some (.int q2.1), (jRx kk), q2.2)) (by decide +kernel) rfl lk_6_91 mo_Rows_at mv_Rows_at ⟨Nat.le_of_ble_eq_true rfl, Nat.le_of_ble_eq_true rfl⟩ rfl rfl h_a0 (by decide) rfl (Nat.le_of_ble_eq_true rfl) ⟨Nat.le_refl _, Nat.le_refl _⟩ hG (e_Rows_at hG hk h_a0 hq2) ?_
      refine ev_seg (o := 6) (nL := 4) (q := 17) (xs := [(.iload_n 1, 1, 1, 0, .null)]) (L' := [some (.ref a0), some (.int x1), some (.int x2), some (.int x3)]) (st' := [.int x1, .int q2.1]) (w' := q2.2) (g := []) (K := []) (by decide +kernel) rfl rfl rfl rfl jk0 ?_
      refine ev_icmp_ne (off := 15) (tgt := 32) (by decide +kernel) (by decide) (fun c5 => ?_) (fun c5 => ?_)
      · replace h := jneg c5 h
        refine ev_seg (o := 6) (nL := 4) (q := 2) (xs := [(.iinc 3 1, 3, 3, 0, .int 1), (.goto (-33), 3, 0, 0, .null)]) (L' := [some (.ref a0), some (.int x1), some (.int x2), some (.int (x3 + 1))]) (st' := []) (w' := q2.2) (g := []) (K := []) (by decide +kernel) rfl rfl rfl rfl jk0 ?_
        refine ev_mask [true, true, true, true] ?_
        exact ih _ _ _ _ _ h
      · replace h := jpos c5 h
        refine ev_seg (o := 6) (nL := 4) (q := 23) (xs := [(.aload_n 0, 1, 0, 0, .null), (.iload_n 3, 1, 3, 0, .null), (.iconst 1, 1, 0, 0, .int 1)]) (L' := [some (.ref a0), some (.int x1), some (.int x2), some (.int x3)]) (st' := [.int 1, .int x3, .ref a0]) (w' := q2.2) (g := []) (K := []) (by decide +kernel) rfl rfl rfl rfl jk0 ?_
        obtain ⟨q3, hq3, h⟩ := jbe h
        refine ev_callV (ci := 3) (a := a0) (y2 := y_Rows_at) (o := 6) (idx := 91) (d2 := d_Rows_at) (n := 2) (mc2 := 0) (ms2 := 0) (As := [.int x3, .int 1]) (st := []) (res2 := (some (.int q3.1), (jRx kk), q3.2)) (by decide +kernel) rfl lk_6_91 mo_Rows_at mv_Rows_at ⟨Nat.le_of_ble_eq_true rfl, Nat.le_of_ble_eq_true rfl⟩ rfl rfl h_a0 (by decide) rfl (Nat.le_of_ble_eq_true rfl) ⟨Nat.le_refl _, Nat.le_refl _⟩ hG (e_Rows_at hG hk h_a0 hq3) ?_
        refine ev_seg (o := 6) (nL := 4) (q := 27) (xs := [(.iload_n 2, 1, 2, 0, .null)]) (L' := [some (.ref a0), some (.int x1), some (.int x2), some (.int x3)]) (st' := [.int x2, .int q3.1]) (w' := q3.2) (g := []) (K := []) (by decide +kernel) rfl rfl rfl rfl jk0 ?_
        refine ev_icmp_ne (off := 5) (tgt := 32) (by decide +kernel) (by decide) (fun c4 => ?_) (fun c4 => ?_)
        · replace h := jneg c4 h
          refine ev_seg (o := 6) (nL := 4) (q := 2) (xs := [(.iinc 3 1, 3, 3, 0, .int 1), (.goto (-33), 3, 0, 0, .null)]) (L' := [some (.ref a0), some (.int x1), some (.int x2), some (.int (x3 + 1))]) (st' := []) (w' := q3.2) (g := []) (K := []) (by decide +kernel) rfl rfl rfl rfl jk0 ?_
          refine ev_mask [true, true, true, true] ?_
          exact ih _ _ _ _ _ h
        · replace h := jpos c4 h
          refine ev_seg (o := 6) (nL := 4) (q := 31) (xs := [(.iconst 1, 1, 0, 0, .int 1)]) (L' := [some (.ref a0), some (.int x1), some (.int x2), some (.int x3)]) (st' := [.int 1]) (w' := q3.2) (g := []) (K := []) (by decide +kernel) rfl rfl rfl rfl jk0 ?_
          cases h
          exact ev_zret (by decide +kernel) rfl rfl rfl rfl rfl
def f_State_hasSpot (a0 : Nat) (x1 : Int32) (x2 : Int32) (w : jW) : Option (Int32 × jW) :=
  f_State_hasSpot_h2 a0 jfu x1 x2 0 w
set_option maxRecDepth 20000 in
theorem e_State_hasSpot {l : Launch} {G : jG} (hG : jX G) {kk : Nat} (hk : 93 ≤ kk) {a0 : Nat} {x1 : Int32} {x2 : Int32} (h_a0 : jSk (jRx kk) a0 = 3) {w : jW} {z : (Int32 × jW)} (h : f_State_hasSpot a0 x1 x2 w = some z) : Ct l G y_State_hasSpot d_State_hasSpot 0 0 [.ref a0, .int x1, .int x2] (jRx kk) w (some (.int z.1), (jRx kk), z.2) := by
  rw [f_State_hasSpot] at h
  refine Ct.of (L := [some (.ref a0), some (.int x1), some (.int x2), none]) (by decide) (Nat.le_of_ble_eq_true rfl) rfl ?_
  refine ev_seg (o := 6) (nL := 4) (q := 2) (xs := [(.iconst 0, 1, 0, 0, .int 0), (.istore_n 3, 1, 3, 0, .null)]) (L' := [some (.ref a0), some (.int x1), some (.int x2), some (.int 0)]) (st' := []) (w' := w) (g := []) (K := []) (by decide +kernel) rfl rfl rfl rfl jk0 ?_
  refine ev_mask [true, true, true, true] ?_
  exact t_State_hasSpot_h2 hG hk h_a0 jfu _ _ _ _ _ h
def f_State_numberLarge_h5 : Nat → Int32 → Int32 → Int32 → Int32 → jW → Option (Int32 × jW)
  | 0, _, _, _, _, _ => none
  | n + 1, x1, x2, x3, x4, w =>
  Option.bind (f_Rows_count 10 w) fun q1 =>
  if x4 < q1.1 then
    Option.bind (f_Rows_at 10 x4 1 q1.2) fun q2 =>
    if q2.1 < (q2.2.1 3 3) then
      (f_State_numberLarge_h5 n) x1 x2 x3 (x4 + 1) q2.2
    else
      Option.bind (f_State_placeOn x4 x2 q2.2) fun q3 =>
      if q3.1 = x1 then
        (f_State_numberLarge_h5 n) x1 x2 (x3 + 1) (x4 + 1) q3.2
      else
        (f_State_numberLarge_h5 n) x1 x2 x3 (x4 + 1) q3.2
  else
    some (x3, q1.2)
set_option maxRecDepth 20000 in
theorem t_State_numberLarge_h5 {l : Launch} {G : jG} (hG : jX G) {kk : Nat} (hk : 93 ≤ kk) : ∀ (n : Nat) (x1 : Int32) (x2 : Int32) (x3 : Int32) (x4 : Int32) (w : jW) (z : (Int32 × jW)), f_State_numberLarge_h5 n x1 x2 x3 x4 w = some z → Ev l G (jrm d_State_numberLarge 0 0) y_State_numberLarge (some (.int z.1), (jRx kk), z.2) 0 0 0 0 5 [some (.ref 3), some (.int x1), some (.int x2), some (.int x3), some (.int x4)] [] (jRx kk) w := by
  intro n
  induction n with
  | zero => intro x1 x2 x3 x4 w z h; simp only [f_State_numberLarge_h5] at h; cases h
  | succ n ih =>
    intro x1 x2 x3 x4 w z h
    rw [f_State_numberLarge_h5] at h
    refine ev_seg (o := 6) (nL := 5) (q := 11) (xs := [(.iload 4, 2, 4, 0, .null), (.aload_n 0, 1, 0, 0, .null), (.getfield 42, 3, 6, 8, .ref 3)]) (L' := [some (.ref 3), some (.int x1), some (.int x2), some (.int x3), some (.int x4)]) (st' := [.ref 10, .int x4]) (w' := w) (g := []) (K := [(10, 3), (3, 6)]) (by decide +kernel) rfl rfl rfl rfl (jk1 (kz_10 hk) (jk1 (kz_3 hk) jk0)) ?_
    obtain ⟨q1, hq1, h⟩ := jbe h
    refine ev_callV (ci := 3) (a := 10) (y2 := y_Rows_count) (o := 6) (idx := 87) (d2 := d_Rows_count) (n := 0) (mc2 := 0) (ms2 := 0) (As := []) (st := [.int x4]) (res2 := (some (.int q1.1), (jRx kk), q1.2)) (by decide +kernel) rfl lk_6_87 mo_Rows_count mv_Rows_count ⟨Nat.le_of_ble_eq_true rfl, Nat.le_of_ble_eq_true rfl⟩ rfl rfl (kz_10 hk) (by decide) rfl (Nat.le_of_ble_eq_true rfl) ⟨Nat.le_refl _, Nat.le_refl _⟩ hG (e_Rows_count hG hk (kz_10 hk) hq1) ?_
    refine ev_icmp_ge (off := 40) (tgt := 54) (by decide +kernel) (by decide) (fun c6 => ?_) (fun c6 => ?_)
    · replace h := jneg c6 h
      refine ev_seg (o := 6) (nL := 5) (q := 55) (xs := [(.iload_n 3, 1, 3, 0, .null)]) (L' := [some (.ref 3), some (.int x1), some (.int x2), some (.int x3), some (.int x4)]) (st' := [.int x3]) (w' := q1.2) (g := []) (K := []) (by decide +kernel) rfl rfl rfl rfl jk0 ?_
      cases h
      exact ev_iret (by decide +kernel) rfl rfl rfl rfl
    · replace h := jpos c6 h
      refine ev_seg (o := 6) (nL := 5) (q := 24) (xs := [(.aload_n 0, 1, 0, 0, .null), (.getfield 42, 3, 6, 8, .ref 3), (.iload 4, 2, 4, 0, .null), (.iconst 1, 1, 0, 0, .int 1)]) (L' := [some (.ref 3), some (.int x1), some (.int x2), some (.int x3), some (.int x4)]) (st' := [.int 1, .int x4, .ref 10]) (w' := q1.2) (g := []) (K := [(10, 3), (3, 6)]) (by decide +kernel) rfl rfl rfl rfl (jk1 (kz_10 hk) (jk1 (kz_3 hk) jk0)) ?_
      obtain ⟨q2, hq2, h⟩ := jbe h
      refine ev_callV (ci := 3) (a := 10) (y2 := y_Rows_at) (o := 6) (idx := 91) (d2 := d_Rows_at) (n := 2) (mc2 := 0) (ms2 := 0) (As := [.int x4, .int 1]) (st := []) (res2 := (some (.int q2.1), (jRx kk), q2.2)) (by decide +kernel) rfl lk_6_91 mo_Rows_at mv_Rows_at ⟨Nat.le_of_ble_eq_true rfl, Nat.le_of_ble_eq_true rfl⟩ rfl rfl (kz_10 hk) (by decide) rfl (Nat.le_of_ble_eq_true rfl) ⟨Nat.le_refl _, Nat.le_refl _⟩ hG (e_Rows_at hG hk (kz_10 hk) hq2) ?_
      refine ev_seg (o := 6) (nL := 5) (q := 31) (xs := [(.aload_n 0, 1, 0, 0, .null), (.getfield 21, 3, 6, 3, .int 0)]) (L' := [some (.ref 3), some (.int x1), some (.int x2), some (.int x3), some (.int x4)]) (st' := [.int (q2.2.1 3 3), .int q2.1]) (w' := q2.2) (g := []) (K := [(3, 6)]) (by decide +kernel) rfl rfl rfl rfl (jk1 (kz_3 hk) jk0) ?_
      refine ev_icmp_lt (off := 17) (tgt := 48) (by decide +kernel) (by decide) (fun c5 => ?_) (fun c5 => ?_)
      · replace h := jpos c5 h
        refine ev_seg (o := 6) (nL := 5) (q := 5) (xs := [(.iinc 4 1, 3, 4, 0, .int 1), (.goto (-46), 3, 0, 0, .null)]) (L' := [some (.ref 3), some (.int x1), some (.int x2), some (.int x3), some (.int (x4 + 1))]) (st' := []) (w' := q2.2) (g := []) (K := []) (by decide +kernel) rfl rfl rfl rfl jk0 ?_
        refine ev_mask [true, true, true, true, true] ?_
        exact ih _ _ _ _ _ _ h
      · replace h := jneg c5 h
        refine ev_seg (o := 6) (nL := 5) (q := 38) (xs := [(.aload_n 0, 1, 0, 0, .null), (.iload 4, 2, 4, 0, .null), (.iload_n 2, 1, 2, 0, .null)]) (L' := [some (.ref 3), some (.int x1), some (.int x2), some (.int x3), some (.int x4)]) (st' := [.int x2, .int x4, .ref 3]) (w' := q2.2) (g := []) (K := []) (by decide +kernel) rfl rfl rfl rfl jk0 ?_
        obtain ⟨q3, hq3, h⟩ := jbe h
        refine ev_callV (ci := 6) (a := 3) (y2 := y_State_placeOn) (o := 6) (idx := 116) (d2 := d_State_placeOn) (n := 2) (mc2 := 0) (ms2 := 0) (As := [.int x4, .int x2]) (st := []) (res2 := (some (.int q3.1), (jRx kk), q3.2)) (by decide +kernel) rfl lk_6_116 mo_State_placeOn mv_State_placeOn ⟨Nat.le_of_ble_eq_true rfl, Nat.le_of_ble_eq_true rfl⟩ rfl rfl (kz_3 hk) (by decide) rfl (Nat.le_of_ble_eq_true rfl) ⟨Nat.le_refl _, Nat.le_refl _⟩ hG (e_State_placeOn hG hk hq3) ?_
        refine ev_seg (o := 6) (nL := 5) (q := 42) (xs := [(.iload_n 1, 1, 1, 0, .null)]) (L' := [some (.ref 3), some (.int x1), some (.int x2), some (.int x3), some (.int x4)]) (st' := [.int x1, .int q3.1]) (w' := q3.2) (g := []) (K := []) (by decide +kernel) rfl rfl rfl rfl jk0 ?_
        refine ev_icmp_ne (off := 6) (tgt := 48) (by decide +kernel) (by decide) (fun c4 => ?_) (fun c4 => ?_)
        · replace h := jneg c4 h
          refine ev_seg (o := 6) (nL := 5) (q := 5) (xs := [(.iinc 4 1, 3, 4, 0, .int 1), (.goto (-46), 3, 0, 0, .null)]) (L' := [some (.ref 3), some (.int x1), some (.int x2), some (.int x3), some (.int (x4 + 1))]) (st' := []) (w' := q3.2) (g := []) (K := []) (by decide +kernel) rfl rfl rfl rfl jk0 ?_
          refine ev_mask [true, true, true, true, true] ?_
          exact ih _ _ _ _ _ _ h
        · replace h := jpos c4 h
          refine ev_seg (o := 6) (nL := 5) (q := 5) (xs := [(.iinc 3 1, 3, 3, 0, .int 1), (.iinc 4 1, 3, 4, 0, .int 1), (.goto (-46), 3, 0, 0, .null)]) (L' := [some (.ref 3), some (.int x1), some (.int x2), some (.int (x3 + 1)), some (.int (x4 + 1))]) (st' := []) (w' := q3.2) (g := []) (K := []) (by decide +kernel) rfl rfl rfl rfl jk0 ?_
          refine ev_mask [true, true, true, true, true] ?_
          exact ih _ _ _ _ _ _ h
def f_State_numberLarge (x1 : Int32) (x2 : Int32) (w : jW) : Option (Int32 × jW) :=
  f_State_numberLarge_h5 jfu x1 x2 0 0 w
set_option maxRecDepth 20000 in
theorem e_State_numberLarge {l : Launch} {G : jG} (hG : jX G) {kk : Nat} (hk : 93 ≤ kk) {x1 : Int32} {x2 : Int32} {w : jW} {z : (Int32 × jW)} (h : f_State_numberLarge x1 x2 w = some z) : Ct l G y_State_numberLarge d_State_numberLarge 0 0 [.ref 3, .int x1, .int x2] (jRx kk) w (some (.int z.1), (jRx kk), z.2) := by
  rw [f_State_numberLarge] at h
  refine Ct.of (L := [some (.ref 3), some (.int x1), some (.int x2), none, none]) (by decide) (Nat.le_of_ble_eq_true rfl) rfl ?_
  refine ev_seg (o := 6) (nL := 5) (q := 5) (xs := [(.iconst 0, 1, 0, 0, .int 0), (.istore_n 3, 1, 3, 0, .null), (.iconst 0, 1, 0, 0, .int 0), (.istore 4, 2, 4, 0, .null)]) (L' := [some (.ref 3), some (.int x1), some (.int x2), some (.int 0), some (.int 0)]) (st' := []) (w' := w) (g := []) (K := []) (by decide +kernel) rfl rfl rfl rfl jk0 ?_
  refine ev_mask [true, true, true, true, true] ?_
  exact t_State_numberLarge_h5 hG hk jfu _ _ _ _ _ _ h
def f_Count_picture (x1 : Int32) (w : jW) : Option (Int32 × jW) :=
  Option.bind (f_Rows_has 6 x1 w) fun q1 =>
  if q1.1 = 0 then
    some ((-1), q1.2)
  else
    if (q1.2.1 3 0) = 0 then
      some ((-1), q1.2)
    else
      Option.bind (f_Rows_isFull 28 q1.2) fun q2 =>
      if q2.1 = 0 then
        Option.bind (f_Rows_at 6 x1 3 q2.2) fun q3 =>
        if q3.1 = 1 then
          some ((-1), q3.2)
        else
          Option.bind (f_State_hasSpot 34 x1 (q3.2.1 3 0) q3.2) fun q4 =>
          if q4.1 = 0 then
            Option.bind (f_State_numberLarge x1 ((q4.2.1 3 0) - 1) q4.2) fun q5 =>
            Option.bind (f_State_addSpot 28 x1 (q5.2.1 3 0) q5.2) fun q6 =>
            Option.bind (f_Rows_put 28 q6.1 2 q5.1 q6.2) fun q7 =>
            some (q5.1, q7)
          else
            some ((-1), q4.2)
      else
        some ((-1), q2.2)
set_option maxRecDepth 20000 in
theorem e_Count_picture {l : Launch} {G : jG} (hG : jX G) {kk : Nat} (hk : 93 ≤ kk) {x1 : Int32} {w : jW} {z : (Int32 × jW)} (h : f_Count_picture x1 w = some z) : Ct l G y_Count_picture d_Count_picture 0 0 [.ref 2, .int x1] (jRx kk) w (some (.int z.1), (jRx kk), z.2) := by
  rw [f_Count_picture] at h
  refine Ct.of (L := [some (.ref 2), some (.int x1), none, none]) (by decide) (Nat.le_of_ble_eq_true rfl) rfl ?_
  refine ev_seg (o := 9) (nL := 4) (q := 8) (xs := [(.aload_n 0, 1, 0, 0, .null), (.getfield 12, 3, 9, 0, .ref 6), (.getfield 58, 3, 6, 6, .ref 3), (.iload_n 1, 1, 1, 0, .null)]) (L' := [some (.ref 2), some (.int x1), none, none]) (st' := [.int x1, .ref 6]) (w' := w) (g := []) (K := [(6, 3), (3, 6), (3, 6), (2, 9)]) (by decide +kernel) rfl rfl rfl rfl (jk1 (kz_6 hk) (jk1 (kz_3 hk) (jk1 (kz_3 hk) (jk1 (kz_2 hk) jk0)))) ?_
  obtain ⟨q1, hq1, h⟩ := jbe h
  refine ev_callV (ci := 3) (a := 6) (y2 := y_Rows_has) (o := 9) (idx := 80) (d2 := d_Rows_has) (n := 1) (mc2 := 0) (ms2 := 0) (As := [.int x1]) (st := []) (res2 := (some (.int q1.1), (jRx kk), q1.2)) (by decide +kernel) rfl lk_9_80 mo_Rows_has mv_Rows_has ⟨Nat.le_of_ble_eq_true rfl, Nat.le_of_ble_eq_true rfl⟩ rfl rfl (kz_6 hk) (by decide) rfl (Nat.le_of_ble_eq_true rfl) ⟨Nat.le_refl _, Nat.le_refl _⟩ hG (e_Rows_has hG hk (kz_6 hk) hq1) ?_
  refine ev_if_eq (off := 26) (tgt := 37) (by decide +kernel) (by decide) (fun c12 => ?_) (fun c12 => ?_)
  · replace h := jpos c12 h
    refine ev_seg (o := 9) (nL := 4) (q := 38) (xs := [(.iconst (-1), 1, 0, 0, .int (-1))]) (L' := [some (.ref 2), some (.int x1), none, none]) (st' := [.int (-1)]) (w' := q1.2) (g := []) (K := []) (by decide +kernel) rfl rfl rfl rfl jk0 ?_
    cases h
    exact ev_iret (by decide +kernel) rfl rfl rfl rfl
  · replace h := jneg c12 h
    refine ev_seg (o := 9) (nL := 4) (q := 21) (xs := [(.aload_n 0, 1, 0, 0, .null), (.getfield 12, 3, 9, 0, .ref 6), (.getfield 119, 3, 6, 0, .int 0)]) (L' := [some (.ref 2), some (.int x1), none, none]) (st' := [.int (q1.2.1 3 0)]) (w' := q1.2) (g := []) (K := [(3, 6), (3, 6), (2, 9)]) (by decide +kernel) rfl rfl rfl rfl (jk1 (kz_3 hk) (jk1 (kz_3 hk) (jk1 (kz_2 hk) jk0))) ?_
    refine ev_if_eq (off := 16) (tgt := 37) (by decide +kernel) (by decide) (fun c11 => ?_) (fun c11 => ?_)
    · replace h := jpos c11 h
      refine ev_seg (o := 9) (nL := 4) (q := 38) (xs := [(.iconst (-1), 1, 0, 0, .int (-1))]) (L' := [some (.ref 2), some (.int x1), none, none]) (st' := [.int (-1)]) (w' := q1.2) (g := []) (K := []) (by decide +kernel) rfl rfl rfl rfl jk0 ?_
      cases h
      exact ev_iret (by decide +kernel) rfl rfl rfl rfl
    · replace h := jneg c11 h
      refine ev_seg (o := 9) (nL := 4) (q := 31) (xs := [(.aload_n 0, 1, 0, 0, .null), (.getfield 12, 3, 9, 0, .ref 6), (.getfield 237, 3, 6, 14, .ref 3)]) (L' := [some (.ref 2), some (.int x1), none, none]) (st' := [.ref 28]) (w' := q1.2) (g := []) (K := [(28, 3), (3, 6), (3, 6), (2, 9)]) (by decide +kernel) rfl rfl rfl rfl (jk1 (kz_28 hk) (jk1 (kz_3 hk) (jk1 (kz_3 hk) (jk1 (kz_2 hk) jk0)))) ?_
      obtain ⟨q2, hq2, h⟩ := jbe h
      refine ev_callV (ci := 3) (a := 28) (y2 := y_Rows_isFull) (o := 9) (idx := 62) (d2 := d_Rows_isFull) (n := 0) (mc2 := 0) (ms2 := 0) (As := []) (st := []) (res2 := (some (.int q2.1), (jRx kk), q2.2)) (by decide +kernel) rfl lk_9_62 mo_Rows_isFull mv_Rows_isFull ⟨Nat.le_of_ble_eq_true rfl, Nat.le_of_ble_eq_true rfl⟩ rfl rfl (kz_28 hk) (by decide) rfl (Nat.le_of_ble_eq_true rfl) ⟨Nat.le_refl _, Nat.le_refl _⟩ hG (e_Rows_isFull hG hk (kz_28 hk) hq2) ?_
      refine ev_if_eq (off := 5) (tgt := 39) (by decide +kernel) (by decide) (fun c10 => ?_) (fun c10 => ?_)
      · replace h := jpos c10 h
        refine ev_seg (o := 9) (nL := 4) (q := 48) (xs := [(.aload_n 0, 1, 0, 0, .null), (.getfield 12, 3, 9, 0, .ref 6), (.getfield 58, 3, 6, 6, .ref 3), (.iload_n 1, 1, 1, 0, .null), (.iconst 3, 1, 0, 0, .int 3)]) (L' := [some (.ref 2), some (.int x1), none, none]) (st' := [.int 3, .int x1, .ref 6]) (w' := q2.2) (g := []) (K := [(6, 3), (3, 6), (3, 6), (2, 9)]) (by decide +kernel) rfl rfl rfl rfl (jk1 (kz_6 hk) (jk1 (kz_3 hk) (jk1 (kz_3 hk) (jk1 (kz_2 hk) jk0)))) ?_
        obtain ⟨q3, hq3, h⟩ := jbe h
        refine ev_callV (ci := 3) (a := 6) (y2 := y_Rows_at) (o := 9) (idx := 83) (d2 := d_Rows_at) (n := 2) (mc2 := 0) (ms2 := 0) (As := [.int x1, .int 3]) (st := []) (res2 := (some (.int q3.1), (jRx kk), q3.2)) (by decide +kernel) rfl lk_9_83 mo_Rows_at mv_Rows_at ⟨Nat.le_of_ble_eq_true rfl, Nat.le_of_ble_eq_true rfl⟩ rfl rfl (kz_6 hk) (by decide) rfl (Nat.le_of_ble_eq_true rfl) ⟨Nat.le_refl _, Nat.le_refl _⟩ hG (e_Rows_at hG hk (kz_6 hk) hq3) ?_
        refine ev_seg (o := 9) (nL := 4) (q := 52) (xs := [(.iconst 1, 1, 0, 0, .int 1)]) (L' := [some (.ref 2), some (.int x1), none, none]) (st' := [.int 1, .int q3.1]) (w' := q3.2) (g := []) (K := []) (by decide +kernel) rfl rfl rfl rfl jk0 ?_
        refine ev_icmp_eq (off := 24) (tgt := 76) (by decide +kernel) (by decide) (fun c9 => ?_) (fun c9 => ?_)
        · replace h := jpos c9 h
          refine ev_seg (o := 9) (nL := 4) (q := 77) (xs := [(.iconst (-1), 1, 0, 0, .int (-1))]) (L' := [some (.ref 2), some (.int x1), none, none]) (st' := [.int (-1)]) (w' := q3.2) (g := []) (K := []) (by decide +kernel) rfl rfl rfl rfl jk0 ?_
          cases h
          exact ev_iret (by decide +kernel) rfl rfl rfl rfl
        · replace h := jneg c9 h
          refine ev_seg (o := 9) (nL := 4) (q := 70) (xs := [(.aload_n 0, 1, 0, 0, .null), (.getfield 12, 3, 9, 0, .ref 6), (.getfield 230, 3, 6, 17, .ref 3), (.iload_n 1, 1, 1, 0, .null), (.aload_n 0, 1, 0, 0, .null), (.getfield 12, 3, 9, 0, .ref 6), (.getfield 119, 3, 6, 0, .int 0)]) (L' := [some (.ref 2), some (.int x1), none, none]) (st' := [.int (q3.2.1 3 0), .int x1, .ref 34]) (w' := q3.2) (g := []) (K := [(3, 6), (3, 6), (2, 9), (34, 3), (3, 6), (3, 6), (2, 9)]) (by decide +kernel) rfl rfl rfl rfl (jk1 (kz_3 hk) (jk1 (kz_3 hk) (jk1 (kz_2 hk) (jk1 (kz_34 hk) (jk1 (kz_3 hk) (jk1 (kz_3 hk) (jk1 (kz_2 hk) jk0))))))) ?_
          obtain ⟨q4, hq4, h⟩ := jbe h
          refine ev_callS (y2 := y_State_hasSpot) (o := 9) (idx := 233) (d2 := d_State_hasSpot) (n := 3) (mc2 := 0) (ms2 := 0) (As := [.ref 34, .int x1, .int (q3.2.1 3 0)]) (st := []) (res2 := (some (.int q4.1), (jRx kk), q4.2)) (by decide +kernel) rfl lk_9_233 mo_State_hasSpot ms_State_hasSpot ⟨Nat.le_of_ble_eq_true rfl, Nat.le_of_ble_eq_true rfl⟩ rfl rfl (Nat.le_of_ble_eq_true rfl) ⟨Nat.le_refl _, Nat.le_refl _⟩ hG (e_State_hasSpot hG hk (kz_34 hk) hq4) ?_
          refine ev_if_eq (off := 5) (tgt := 78) (by decide +kernel) (by decide) (fun c8 => ?_) (fun c8 => ?_)
          · replace h := jpos c8 h
            refine ev_seg (o := 9) (nL := 4) (q := 92) (xs := [(.aload_n 0, 1, 0, 0, .null), (.getfield 12, 3, 9, 0, .ref 6), (.iload_n 1, 1, 1, 0, .null), (.aload_n 0, 1, 0, 0, .null), (.getfield 12, 3, 9, 0, .ref 6), (.getfield 119, 3, 6, 0, .int 0), (.iconst 1, 1, 0, 0, .int 1), (.isub, 1, 0, 0, .null)]) (L' := [some (.ref 2), some (.int x1), none, none]) (st' := [.int ((q4.2.1 3 0) - 1), .int x1, .ref 3]) (w' := q4.2) (g := []) (K := [(3, 6), (3, 6), (2, 9), (3, 6), (2, 9)]) (by decide +kernel) rfl rfl rfl rfl (jk1 (kz_3 hk) (jk1 (kz_3 hk) (jk1 (kz_2 hk) (jk1 (kz_3 hk) (jk1 (kz_2 hk) jk0))))) ?_
            obtain ⟨q5, hq5, h⟩ := jbe h
            refine ev_callV (ci := 6) (a := 3) (y2 := y_State_numberLarge) (o := 9) (idx := 240) (d2 := d_State_numberLarge) (n := 2) (mc2 := 0) (ms2 := 0) (As := [.int x1, .int ((q4.2.1 3 0) - 1)]) (st := []) (res2 := (some (.int q5.1), (jRx kk), q5.2)) (by decide +kernel) rfl lk_9_240 mo_State_numberLarge mv_State_numberLarge ⟨Nat.le_of_ble_eq_true rfl, Nat.le_of_ble_eq_true rfl⟩ rfl rfl (kz_3 hk) (by decide) rfl (Nat.le_of_ble_eq_true rfl) ⟨Nat.le_refl _, Nat.le_refl _⟩ hG (e_State_numberLarge hG hk hq5) ?_
            refine ev_seg (o := 9) (nL := 4) (q := 111) (xs := [(.istore_n 2, 1, 2, 0, .null), (.aload_n 0, 1, 0, 0, .null), (.getfield 12, 3, 9, 0, .ref 6), (.getfield 237, 3, 6, 14, .ref 3), (.iload_n 1, 1, 1, 0, .null), (.aload_n 0, 1, 0, 0, .null), (.getfield 12, 3, 9, 0, .ref 6), (.getfield 119, 3, 6, 0, .int 0)]) (L' := [some (.ref 2), some (.int x1), some (.int q5.1), none]) (st' := [.int (q5.2.1 3 0), .int x1, .ref 28]) (w' := q5.2) (g := []) (K := [(3, 6), (3, 6), (2, 9), (28, 3), (3, 6), (3, 6), (2, 9)]) (by decide +kernel) rfl rfl rfl rfl (jk1 (kz_3 hk) (jk1 (kz_3 hk) (jk1 (kz_2 hk) (jk1 (kz_28 hk) (jk1 (kz_3 hk) (jk1 (kz_3 hk) (jk1 (kz_2 hk) jk0))))))) ?_
            obtain ⟨q6, hq6, h⟩ := jbe h
            refine ev_callS (y2 := y_State_addSpot) (o := 9) (idx := 147) (d2 := d_State_addSpot) (n := 3) (mc2 := 0) (ms2 := 0) (As := [.ref 28, .int x1, .int (q5.2.1 3 0)]) (st := []) (res2 := (some (.int q6.1), (jRx kk), q6.2)) (by decide +kernel) rfl lk_9_147 mo_State_addSpot ms_State_addSpot ⟨Nat.le_of_ble_eq_true rfl, Nat.le_of_ble_eq_true rfl⟩ rfl rfl (Nat.le_of_ble_eq_true rfl) ⟨Nat.le_refl _, Nat.le_refl _⟩ hG (e_State_addSpot hG hk (kz_28 hk) hq6) ?_
            refine ev_seg (o := 9) (nL := 4) (q := 125) (xs := [(.istore_n 3, 1, 3, 0, .null), (.aload_n 0, 1, 0, 0, .null), (.getfield 12, 3, 9, 0, .ref 6), (.getfield 237, 3, 6, 14, .ref 3), (.iload_n 3, 1, 3, 0, .null), (.iconst 2, 1, 0, 0, .int 2), (.iload_n 2, 1, 2, 0, .null)]) (L' := [some (.ref 2), some (.int x1), some (.int q5.1), some (.int q6.1)]) (st' := [.int q5.1, .int 2, .int q6.1, .ref 28]) (w' := q6.2) (g := []) (K := [(28, 3), (3, 6), (3, 6), (2, 9)]) (by decide +kernel) rfl rfl rfl rfl (jk1 (kz_28 hk) (jk1 (kz_3 hk) (jk1 (kz_3 hk) (jk1 (kz_2 hk) jk0)))) ?_
            obtain ⟨q7, hq7, h⟩ := jbe h
            refine ev_callV (ci := 3) (a := 28) (y2 := y_Rows_put) (o := 9) (idx := 72) (d2 := d_Rows_put) (n := 3) (mc2 := 0) (ms2 := 0) (As := [.int q6.1, .int 2, .int q5.1]) (st := []) (res2 := (none, (jRx kk), q7)) (by decide +kernel) rfl lk_9_72 mo_Rows_put mv_Rows_put ⟨Nat.le_of_ble_eq_true rfl, Nat.le_of_ble_eq_true rfl⟩ rfl rfl (kz_28 hk) (by decide) rfl (Nat.le_of_ble_eq_true rfl) ⟨Nat.le_refl _, Nat.le_refl _⟩ hG (e_Rows_put hG hk (kz_28 hk) hq7) ?_
            refine ev_seg (o := 9) (nL := 4) (q := 129) (xs := [(.iload_n 2, 1, 2, 0, .null)]) (L' := [some (.ref 2), some (.int x1), some (.int q5.1), some (.int q6.1)]) (st' := [.int q5.1]) (w' := q7) (g := []) (K := []) (by decide +kernel) rfl rfl rfl rfl jk0 ?_
            cases h
            exact ev_iret (by decide +kernel) rfl rfl rfl rfl
          · replace h := jneg c8 h
            refine ev_seg (o := 9) (nL := 4) (q := 77) (xs := [(.iconst (-1), 1, 0, 0, .int (-1))]) (L' := [some (.ref 2), some (.int x1), none, none]) (st' := [.int (-1)]) (w' := q4.2) (g := []) (K := []) (by decide +kernel) rfl rfl rfl rfl jk0 ?_
            cases h
            exact ev_iret (by decide +kernel) rfl rfl rfl rfl
      · replace h := jneg c10 h
        refine ev_seg (o := 9) (nL := 4) (q := 38) (xs := [(.iconst (-1), 1, 0, 0, .int (-1))]) (L' := [some (.ref 2), some (.int x1), none, none]) (st' := [.int (-1)]) (w' := q2.2) (g := []) (K := []) (by decide +kernel) rfl rfl rfl rfl jk0 ?_
        cases h
        exact ev_iret (by decide +kernel) rfl rfl rfl rfl
def f_Count_isKnowable (x1 : Int32) (x2 : Int32) (x3 : Int32) (x4 : Int32) (w : jW) : Option (Int32 × jW) :=
  Option.bind (f_Rows_has 6 x1 w) fun q1 =>
  if q1.1 = 0 then
    some (0, q1.2)
  else
    Option.bind (f_State_isSort x2 q1.2) fun q2 =>
    if q2.1 = 0 then
      some (0, q2.2)
    else
      if x3 < 0 then
        some (0, q2.2)
      else
        if x3 ≤ x4 then
          if x4 ≤ 1999 then
            some (1, q2.2)
          else
            some (0, q2.2)
        else
          some (0, q2.2)
set_option maxRecDepth 20000 in
theorem e_Count_isKnowable {l : Launch} {G : jG} (hG : jX G) {kk : Nat} (hk : 93 ≤ kk) {x1 : Int32} {x2 : Int32} {x3 : Int32} {x4 : Int32} {w : jW} {z : (Int32 × jW)} (h : f_Count_isKnowable x1 x2 x3 x4 w = some z) : Ct l G y_Count_isKnowable d_Count_isKnowable 0 0 [.ref 2, .int x1, .int x2, .int x3, .int x4] (jRx kk) w (some (.int z.1), (jRx kk), z.2) := by
  rw [f_Count_isKnowable] at h
  refine Ct.of (L := [some (.ref 2), some (.int x1), some (.int x2), some (.int x3), some (.int x4)]) (by decide) (Nat.le_of_ble_eq_true rfl) rfl ?_
  refine ev_seg (o := 9) (nL := 5) (q := 8) (xs := [(.aload_n 0, 1, 0, 0, .null), (.getfield 12, 3, 9, 0, .ref 6), (.getfield 58, 3, 6, 6, .ref 3), (.iload_n 1, 1, 1, 0, .null)]) (L' := [some (.ref 2), some (.int x1), some (.int x2), some (.int x3), some (.int x4)]) (st' := [.int x1, .ref 6]) (w' := w) (g := []) (K := [(6, 3), (3, 6), (3, 6), (2, 9)]) (by decide +kernel) rfl rfl rfl rfl (jk1 (kz_6 hk) (jk1 (kz_3 hk) (jk1 (kz_3 hk) (jk1 (kz_2 hk) jk0)))) ?_
  obtain ⟨q1, hq1, h⟩ := jbe h
  refine ev_callV (ci := 3) (a := 6) (y2 := y_Rows_has) (o := 9) (idx := 80) (d2 := d_Rows_has) (n := 1) (mc2 := 0) (ms2 := 0) (As := [.int x1]) (st := []) (res2 := (some (.int q1.1), (jRx kk), q1.2)) (by decide +kernel) rfl lk_9_80 mo_Rows_has mv_Rows_has ⟨Nat.le_of_ble_eq_true rfl, Nat.le_of_ble_eq_true rfl⟩ rfl rfl (kz_6 hk) (by decide) rfl (Nat.le_of_ble_eq_true rfl) ⟨Nat.le_refl _, Nat.le_refl _⟩ hG (e_Rows_has hG hk (kz_6 hk) hq1) ?_
  refine ev_if_eq (off := 32) (tgt := 43) (by decide +kernel) (by decide) (fun c7 => ?_) (fun c7 => ?_)
  · replace h := jpos c7 h
    refine ev_seg (o := 9) (nL := 5) (q := 44) (xs := [(.iconst 0, 1, 0, 0, .int 0)]) (L' := [some (.ref 2), some (.int x1), some (.int x2), some (.int x3), some (.int x4)]) (st' := [.int 0]) (w' := q1.2) (g := []) (K := []) (by decide +kernel) rfl rfl rfl rfl jk0 ?_
    cases h
    exact ev_zret (by decide +kernel) rfl rfl rfl rfl rfl
  · replace h := jneg c7 h
    refine ev_seg (o := 9) (nL := 5) (q := 15) (xs := [(.iload_n 2, 1, 2, 0, .null)]) (L' := [some (.ref 2), some (.int x1), some (.int x2), some (.int x3), some (.int x4)]) (st' := [.int x2]) (w' := q1.2) (g := []) (K := []) (by decide +kernel) rfl rfl rfl rfl jk0 ?_
    obtain ⟨q2, hq2, h⟩ := jbe h
    refine ev_callS (y2 := y_State_isSort) (o := 9) (idx := 97) (d2 := d_State_isSort) (n := 1) (mc2 := 0) (ms2 := 0) (As := [.int x2]) (st := []) (res2 := (some (.int q2.1), (jRx kk), q2.2)) (by decide +kernel) rfl lk_9_97 mo_State_isSort ms_State_isSort ⟨Nat.le_of_ble_eq_true rfl, Nat.le_of_ble_eq_true rfl⟩ rfl rfl (Nat.le_of_ble_eq_true rfl) ⟨Nat.le_refl _, Nat.le_refl _⟩ hG (e_State_isSort hG hk hq2) ?_
    refine ev_if_eq (off := 25) (tgt := 43) (by decide +kernel) (by decide) (fun c6 => ?_) (fun c6 => ?_)
    · replace h := jpos c6 h
      refine ev_seg (o := 9) (nL := 5) (q := 44) (xs := [(.iconst 0, 1, 0, 0, .int 0)]) (L' := [some (.ref 2), some (.int x1), some (.int x2), some (.int x3), some (.int x4)]) (st' := [.int 0]) (w' := q2.2) (g := []) (K := []) (by decide +kernel) rfl rfl rfl rfl jk0 ?_
      cases h
      exact ev_zret (by decide +kernel) rfl rfl rfl rfl rfl
    · replace h := jneg c6 h
      refine ev_seg (o := 9) (nL := 5) (q := 22) (xs := [(.iload_n 3, 1, 3, 0, .null)]) (L' := [some (.ref 2), some (.int x1), some (.int x2), some (.int x3), some (.int x4)]) (st' := [.int x3]) (w' := q2.2) (g := []) (K := []) (by decide +kernel) rfl rfl rfl rfl jk0 ?_
      refine ev_if_lt (off := 21) (tgt := 43) (by decide +kernel) (by decide) (fun c5 => ?_) (fun c5 => ?_)
      · replace h := jpos c5 h
        refine ev_seg (o := 9) (nL := 5) (q := 44) (xs := [(.iconst 0, 1, 0, 0, .int 0)]) (L' := [some (.ref 2), some (.int x1), some (.int x2), some (.int x3), some (.int x4)]) (st' := [.int 0]) (w' := q2.2) (g := []) (K := []) (by decide +kernel) rfl rfl rfl rfl jk0 ?_
        cases h
        exact ev_zret (by decide +kernel) rfl rfl rfl rfl rfl
      · replace h := jneg c5 h
        refine ev_seg (o := 9) (nL := 5) (q := 28) (xs := [(.iload_n 3, 1, 3, 0, .null), (.iload 4, 2, 4, 0, .null)]) (L' := [some (.ref 2), some (.int x1), some (.int x2), some (.int x3), some (.int x4)]) (st' := [.int x4, .int x3]) (w' := q2.2) (g := []) (K := []) (by decide +kernel) rfl rfl rfl rfl jk0 ?_
        refine ev_icmp_gt (off := 15) (tgt := 43) (by decide +kernel) (by decide) (fun c4 => ?_) (fun c4 => ?_)
        · replace h := jneg c4 h
          refine ev_seg (o := 9) (nL := 5) (q := 44) (xs := [(.iconst 0, 1, 0, 0, .int 0)]) (L' := [some (.ref 2), some (.int x1), some (.int x2), some (.int x3), some (.int x4)]) (st' := [.int 0]) (w' := q2.2) (g := []) (K := []) (by decide +kernel) rfl rfl rfl rfl jk0 ?_
          cases h
          exact ev_zret (by decide +kernel) rfl rfl rfl rfl rfl
        · replace h := jpos c4 h
          refine ev_seg (o := 9) (nL := 5) (q := 36) (xs := [(.iload 4, 2, 4, 0, .null), (.sipush 1999, 3, 0, 0, .int 1999)]) (L' := [some (.ref 2), some (.int x1), some (.int x2), some (.int x3), some (.int x4)]) (st' := [.int 1999, .int x4]) (w' := q2.2) (g := []) (K := []) (by decide +kernel) rfl rfl rfl rfl jk0 ?_
          refine ev_icmp_gt (off := 7) (tgt := 43) (by decide +kernel) (by decide) (fun c3 => ?_) (fun c3 => ?_)
          · replace h := jneg c3 h
            refine ev_seg (o := 9) (nL := 5) (q := 44) (xs := [(.iconst 0, 1, 0, 0, .int 0)]) (L' := [some (.ref 2), some (.int x1), some (.int x2), some (.int x3), some (.int x4)]) (st' := [.int 0]) (w' := q2.2) (g := []) (K := []) (by decide +kernel) rfl rfl rfl rfl jk0 ?_
            cases h
            exact ev_zret (by decide +kernel) rfl rfl rfl rfl rfl
          · replace h := jpos c3 h
            refine ev_seg (o := 9) (nL := 5) (q := 44) (xs := [(.iconst 1, 1, 0, 0, .int 1), (.goto 4, 3, 0, 0, .null)]) (L' := [some (.ref 2), some (.int x1), some (.int x2), some (.int x3), some (.int x4)]) (st' := [.int 1]) (w' := q2.2) (g := []) (K := []) (by decide +kernel) rfl rfl rfl rfl jk0 ?_
            cases h
            exact ev_zret (by decide +kernel) rfl rfl rfl rfl rfl
def f_Knowing_isQuiet_h3 : Nat → Int32 → Int32 → Int32 → Int32 → jW → Option (Int32 × jW)
  | 0, _, _, _, _, _ => none
  | n + 1, x1, x2, x3, x4, w =>
  Option.bind (f_Rows_count 26 w) fun q1 =>
  if x4 < q1.1 then
    Option.bind (f_Rows_at 26 x4 6 q1.2) fun q2 =>
    Option.bind (f_Rows_at 26 x4 8 q2.2) fun q3 =>
    if q3.1 = x1 then
      Option.bind (f_Rows_at 26 x4 5 q3.2) fun q4 =>
      if q4.1 = 1 then
        if q2.1 ≤ x2 then
          (f_Knowing_isQuiet_h3 n) x1 x2 x3 (x4 + 1) q4.2
        else
          if q2.1 ≤ x3 then
            Option.bind (f_Rows_at 26 x4 9 q4.2) fun q5 =>
            if q5.1 < x2 then
              some (1, q5.2)
            else
              (f_Knowing_isQuiet_h3 n) x1 x2 x3 (x4 + 1) q5.2
          else
            (f_Knowing_isQuiet_h3 n) x1 x2 x3 (x4 + 1) q4.2
      else
        (f_Knowing_isQuiet_h3 n) x1 x2 x3 (x4 + 1) q4.2
    else
      (f_Knowing_isQuiet_h3 n) x1 x2 x3 (x4 + 1) q3.2
  else
    some (0, q1.2)
set_option maxRecDepth 20000 in
theorem t_Knowing_isQuiet_h3 {l : Launch} {G : jG} (hG : jX G) {kk : Nat} (hk : 93 ≤ kk) : ∀ (n : Nat) (x1 : Int32) (x2 : Int32) (x3 : Int32) (x4 : Int32) (w : jW) (z : (Int32 × jW)), f_Knowing_isQuiet_h3 n x1 x2 x3 x4 w = some z → Ev l G (jrm d_Knowing_isQuiet 0 0) y_Knowing_isQuiet (some (.int z.1), (jRx kk), z.2) 0 0 0 0 3 [some (.ref 3), some (.int x1), some (.int x2), some (.int x3), some (.int x4), none] [] (jRx kk) w := by
  intro n
  induction n with
  | zero => intro x1 x2 x3 x4 w z h; simp only [f_Knowing_isQuiet_h3] at h; cases h
  | succ n ih =>
    intro x1 x2 x3 x4 w z h
    rw [f_Knowing_isQuiet_h3] at h
    refine ev_seg (o := 1) (nL := 6) (q := 9) (xs := [(.iload 4, 2, 4, 0, .null), (.aload_n 0, 1, 0, 0, .null), (.getfield 73, 3, 6, 13, .ref 3)]) (L' := [some (.ref 3), some (.int x1), some (.int x2), some (.int x3), some (.int x4), none]) (st' := [.ref 26, .int x4]) (w' := w) (g := []) (K := [(26, 3), (3, 6)]) (by decide +kernel) rfl rfl rfl rfl (jk1 (kz_26 hk) (jk1 (kz_3 hk) jk0)) ?_
    obtain ⟨q1, hq1, h⟩ := jbe h
    refine ev_callV (ci := 3) (a := 26) (y2 := y_Rows_count) (o := 1) (idx := 25) (d2 := d_Rows_count) (n := 0) (mc2 := 0) (ms2 := 0) (As := []) (st := [.int x4]) (res2 := (some (.int q1.1), (jRx kk), q1.2)) (by decide +kernel) rfl lk_1_25 mo_Rows_count mv_Rows_count ⟨Nat.le_of_ble_eq_true rfl, Nat.le_of_ble_eq_true rfl⟩ rfl rfl (kz_26 hk) (by decide) rfl (Nat.le_of_ble_eq_true rfl) ⟨Nat.le_refl _, Nat.le_refl _⟩ hG (e_Rows_count hG hk (kz_26 hk) hq1) ?_
    refine ev_icmp_ge (off := 80) (tgt := 92) (by decide +kernel) (by decide) (fun c11 => ?_) (fun c11 => ?_)
    · replace h := jneg c11 h
      refine ev_seg (o := 1) (nL := 6) (q := 93) (xs := [(.iconst 0, 1, 0, 0, .int 0)]) (L' := [some (.ref 3), some (.int x1), some (.int x2), some (.int x3), some (.int x4), none]) (st' := [.int 0]) (w' := q1.2) (g := []) (K := []) (by decide +kernel) rfl rfl rfl rfl jk0 ?_
      cases h
      exact ev_zret (by decide +kernel) rfl rfl rfl rfl rfl
    · replace h := jpos c11 h
      refine ev_seg (o := 1) (nL := 6) (q := 23) (xs := [(.aload_n 0, 1, 0, 0, .null), (.getfield 73, 3, 6, 13, .ref 3), (.iload 4, 2, 4, 0, .null), (.bipush 6, 2, 0, 0, .int 6)]) (L' := [some (.ref 3), some (.int x1), some (.int x2), some (.int x3), some (.int x4), none]) (st' := [.int 6, .int x4, .ref 26]) (w' := q1.2) (g := []) (K := [(26, 3), (3, 6)]) (by decide +kernel) rfl rfl rfl rfl (jk1 (kz_26 hk) (jk1 (kz_3 hk) jk0)) ?_
      obtain ⟨q2, hq2, h⟩ := jbe h
      refine ev_callV (ci := 3) (a := 26) (y2 := y_Rows_at) (o := 1) (idx := 31) (d2 := d_Rows_at) (n := 2) (mc2 := 0) (ms2 := 0) (As := [.int x4, .int 6]) (st := []) (res2 := (some (.int q2.1), (jRx kk), q2.2)) (by decide +kernel) rfl lk_1_31 mo_Rows_at mv_Rows_at ⟨Nat.le_of_ble_eq_true rfl, Nat.le_of_ble_eq_true rfl⟩ rfl rfl (kz_26 hk) (by decide) rfl (Nat.le_of_ble_eq_true rfl) ⟨Nat.le_refl _, Nat.le_refl _⟩ hG (e_Rows_at hG hk (kz_26 hk) hq2) ?_
      refine ev_seg (o := 1) (nL := 6) (q := 36) (xs := [(.istore 5, 2, 5, 0, .null), (.aload_n 0, 1, 0, 0, .null), (.getfield 73, 3, 6, 13, .ref 3), (.iload 4, 2, 4, 0, .null), (.bipush 8, 2, 0, 0, .int 8)]) (L' := [some (.ref 3), some (.int x1), some (.int x2), some (.int x3), some (.int x4), some (.int q2.1)]) (st' := [.int 8, .int x4, .ref 26]) (w' := q2.2) (g := []) (K := [(26, 3), (3, 6)]) (by decide +kernel) rfl rfl rfl rfl (jk1 (kz_26 hk) (jk1 (kz_3 hk) jk0)) ?_
      obtain ⟨q3, hq3, h⟩ := jbe h
      refine ev_callV (ci := 3) (a := 26) (y2 := y_Rows_at) (o := 1) (idx := 31) (d2 := d_Rows_at) (n := 2) (mc2 := 0) (ms2 := 0) (As := [.int x4, .int 8]) (st := []) (res2 := (some (.int q3.1), (jRx kk), q3.2)) (by decide +kernel) rfl lk_1_31 mo_Rows_at mv_Rows_at ⟨Nat.le_of_ble_eq_true rfl, Nat.le_of_ble_eq_true rfl⟩ rfl rfl (kz_26 hk) (by decide) rfl (Nat.le_of_ble_eq_true rfl) ⟨Nat.le_refl _, Nat.le_refl _⟩ hG (e_Rows_at hG hk (kz_26 hk) hq3) ?_
      refine ev_seg (o := 1) (nL := 6) (q := 40) (xs := [(.iload_n 1, 1, 1, 0, .null)]) (L' := [some (.ref 3), some (.int x1), some (.int x2), some (.int x3), some (.int x4), some (.int q2.1)]) (st' := [.int x1, .int q3.1]) (w' := q3.2) (g := []) (K := []) (by decide +kernel) rfl rfl rfl rfl jk0 ?_
      refine ev_icmp_ne (off := 46) (tgt := 86) (by decide +kernel) (by decide) (fun c10 => ?_) (fun c10 => ?_)
      · replace h := jneg c10 h
        refine ev_seg (o := 1) (nL := 6) (q := 3) (xs := [(.iinc 4 1, 3, 4, 0, .int 1), (.goto (-86), 3, 0, 0, .null)]) (L' := [some (.ref 3), some (.int x1), some (.int x2), some (.int x3), some (.int (x4 + 1)), some (.int q2.1)]) (st' := []) (w' := q3.2) (g := []) (K := []) (by decide +kernel) rfl rfl rfl rfl jk0 ?_
        refine ev_mask [true, true, true, true, true, false] ?_
        exact ih _ _ _ _ _ _ h
      · replace h := jpos c10 h
        refine ev_seg (o := 1) (nL := 6) (q := 50) (xs := [(.aload_n 0, 1, 0, 0, .null), (.getfield 73, 3, 6, 13, .ref 3), (.iload 4, 2, 4, 0, .null), (.iconst 5, 1, 0, 0, .int 5)]) (L' := [some (.ref 3), some (.int x1), some (.int x2), some (.int x3), some (.int x4), some (.int q2.1)]) (st' := [.int 5, .int x4, .ref 26]) (w' := q3.2) (g := []) (K := [(26, 3), (3, 6)]) (by decide +kernel) rfl rfl rfl rfl (jk1 (kz_26 hk) (jk1 (kz_3 hk) jk0)) ?_
        obtain ⟨q4, hq4, h⟩ := jbe h
        refine ev_callV (ci := 3) (a := 26) (y2 := y_Rows_at) (o := 1) (idx := 31) (d2 := d_Rows_at) (n := 2) (mc2 := 0) (ms2 := 0) (As := [.int x4, .int 5]) (st := []) (res2 := (some (.int q4.1), (jRx kk), q4.2)) (by decide +kernel) rfl lk_1_31 mo_Rows_at mv_Rows_at ⟨Nat.le_of_ble_eq_true rfl, Nat.le_of_ble_eq_true rfl⟩ rfl rfl (kz_26 hk) (by decide) rfl (Nat.le_of_ble_eq_true rfl) ⟨Nat.le_refl _, Nat.le_refl _⟩ hG (e_Rows_at hG hk (kz_26 hk) hq4) ?_
        refine ev_seg (o := 1) (nL := 6) (q := 54) (xs := [(.iconst 1, 1, 0, 0, .int 1)]) (L' := [some (.ref 3), some (.int x1), some (.int x2), some (.int x3), some (.int x4), some (.int q2.1)]) (st' := [.int 1, .int q4.1]) (w' := q4.2) (g := []) (K := []) (by decide +kernel) rfl rfl rfl rfl jk0 ?_
        refine ev_icmp_ne (off := 32) (tgt := 86) (by decide +kernel) (by decide) (fun c9 => ?_) (fun c9 => ?_)
        · replace h := jneg c9 h
          refine ev_seg (o := 1) (nL := 6) (q := 3) (xs := [(.iinc 4 1, 3, 4, 0, .int 1), (.goto (-86), 3, 0, 0, .null)]) (L' := [some (.ref 3), some (.int x1), some (.int x2), some (.int x3), some (.int (x4 + 1)), some (.int q2.1)]) (st' := []) (w' := q4.2) (g := []) (K := []) (by decide +kernel) rfl rfl rfl rfl jk0 ?_
          refine ev_mask [true, true, true, true, true, false] ?_
          exact ih _ _ _ _ _ _ h
        · replace h := jpos c9 h
          refine ev_seg (o := 1) (nL := 6) (q := 60) (xs := [(.iload 5, 2, 5, 0, .null), (.iload_n 2, 1, 2, 0, .null)]) (L' := [some (.ref 3), some (.int x1), some (.int x2), some (.int x3), some (.int x4), some (.int q2.1)]) (st' := [.int x2, .int q2.1]) (w' := q4.2) (g := []) (K := []) (by decide +kernel) rfl rfl rfl rfl jk0 ?_
          refine ev_icmp_le (off := 26) (tgt := 86) (by decide +kernel) (by decide) (fun c8 => ?_) (fun c8 => ?_)
          · replace h := jpos c8 h
            refine ev_seg (o := 1) (nL := 6) (q := 3) (xs := [(.iinc 4 1, 3, 4, 0, .int 1), (.goto (-86), 3, 0, 0, .null)]) (L' := [some (.ref 3), some (.int x1), some (.int x2), some (.int x3), some (.int (x4 + 1)), some (.int q2.1)]) (st' := []) (w' := q4.2) (g := []) (K := []) (by decide +kernel) rfl rfl rfl rfl jk0 ?_
            refine ev_mask [true, true, true, true, true, false] ?_
            exact ih _ _ _ _ _ _ h
          · replace h := jneg c8 h
            refine ev_seg (o := 1) (nL := 6) (q := 66) (xs := [(.iload 5, 2, 5, 0, .null), (.iload_n 3, 1, 3, 0, .null)]) (L' := [some (.ref 3), some (.int x1), some (.int x2), some (.int x3), some (.int x4), some (.int q2.1)]) (st' := [.int x3, .int q2.1]) (w' := q4.2) (g := []) (K := []) (by decide +kernel) rfl rfl rfl rfl jk0 ?_
            refine ev_icmp_gt (off := 20) (tgt := 86) (by decide +kernel) (by decide) (fun c7 => ?_) (fun c7 => ?_)
            · replace h := jneg c7 h
              refine ev_seg (o := 1) (nL := 6) (q := 3) (xs := [(.iinc 4 1, 3, 4, 0, .int 1), (.goto (-86), 3, 0, 0, .null)]) (L' := [some (.ref 3), some (.int x1), some (.int x2), some (.int x3), some (.int (x4 + 1)), some (.int q2.1)]) (st' := []) (w' := q4.2) (g := []) (K := []) (by decide +kernel) rfl rfl rfl rfl jk0 ?_
              refine ev_mask [true, true, true, true, true, false] ?_
              exact ih _ _ _ _ _ _ h
            · replace h := jpos c7 h
              refine ev_seg (o := 1) (nL := 6) (q := 77) (xs := [(.aload_n 0, 1, 0, 0, .null), (.getfield 73, 3, 6, 13, .ref 3), (.iload 4, 2, 4, 0, .null), (.bipush 9, 2, 0, 0, .int 9)]) (L' := [some (.ref 3), some (.int x1), some (.int x2), some (.int x3), some (.int x4), some (.int q2.1)]) (st' := [.int 9, .int x4, .ref 26]) (w' := q4.2) (g := []) (K := [(26, 3), (3, 6)]) (by decide +kernel) rfl rfl rfl rfl (jk1 (kz_26 hk) (jk1 (kz_3 hk) jk0)) ?_
              obtain ⟨q5, hq5, h⟩ := jbe h
              refine ev_callV (ci := 3) (a := 26) (y2 := y_Rows_at) (o := 1) (idx := 31) (d2 := d_Rows_at) (n := 2) (mc2 := 0) (ms2 := 0) (As := [.int x4, .int 9]) (st := []) (res2 := (some (.int q5.1), (jRx kk), q5.2)) (by decide +kernel) rfl lk_1_31 mo_Rows_at mv_Rows_at ⟨Nat.le_of_ble_eq_true rfl, Nat.le_of_ble_eq_true rfl⟩ rfl rfl (kz_26 hk) (by decide) rfl (Nat.le_of_ble_eq_true rfl) ⟨Nat.le_refl _, Nat.le_refl _⟩ hG (e_Rows_at hG hk (kz_26 hk) hq5) ?_
              refine ev_seg (o := 1) (nL := 6) (q := 81) (xs := [(.iload_n 2, 1, 2, 0, .null)]) (L' := [some (.ref 3), some (.int x1), some (.int x2), some (.int x3), some (.int x4), some (.int q2.1)]) (st' := [.int x2, .int q5.1]) (w' := q5.2) (g := []) (K := []) (by decide +kernel) rfl rfl rfl rfl jk0 ?_
              refine ev_icmp_ge (off := 5) (tgt := 86) (by decide +kernel) (by decide) (fun c6 => ?_) (fun c6 => ?_)
              · replace h := jneg c6 h
                refine ev_seg (o := 1) (nL := 6) (q := 3) (xs := [(.iinc 4 1, 3, 4, 0, .int 1), (.goto (-86), 3, 0, 0, .null)]) (L' := [some (.ref 3), some (.int x1), some (.int x2), some (.int x3), some (.int (x4 + 1)), some (.int q2.1)]) (st' := []) (w' := q5.2) (g := []) (K := []) (by decide +kernel) rfl rfl rfl rfl jk0 ?_
                refine ev_mask [true, true, true, true, true, false] ?_
                exact ih _ _ _ _ _ _ h
              · replace h := jpos c6 h
                refine ev_seg (o := 1) (nL := 6) (q := 85) (xs := [(.iconst 1, 1, 0, 0, .int 1)]) (L' := [some (.ref 3), some (.int x1), some (.int x2), some (.int x3), some (.int x4), some (.int q2.1)]) (st' := [.int 1]) (w' := q5.2) (g := []) (K := []) (by decide +kernel) rfl rfl rfl rfl jk0 ?_
                cases h
                exact ev_zret (by decide +kernel) rfl rfl rfl rfl rfl
def f_Knowing_isQuiet (x1 : Int32) (x2 : Int32) (x3 : Int32) (w : jW) : Option (Int32 × jW) :=
  f_Knowing_isQuiet_h3 jfu x1 x2 x3 0 w
set_option maxRecDepth 20000 in
theorem e_Knowing_isQuiet {l : Launch} {G : jG} (hG : jX G) {kk : Nat} (hk : 93 ≤ kk) {x1 : Int32} {x2 : Int32} {x3 : Int32} {w : jW} {z : (Int32 × jW)} (h : f_Knowing_isQuiet x1 x2 x3 w = some z) : Ct l G y_Knowing_isQuiet d_Knowing_isQuiet 0 0 [.ref 3, .int x1, .int x2, .int x3] (jRx kk) w (some (.int z.1), (jRx kk), z.2) := by
  rw [f_Knowing_isQuiet] at h
  refine Ct.of (L := [some (.ref 3), some (.int x1), some (.int x2), some (.int x3), none, none]) (by decide) (Nat.le_of_ble_eq_true rfl) rfl ?_
  refine ev_seg (o := 1) (nL := 6) (q := 3) (xs := [(.iconst 0, 1, 0, 0, .int 0), (.istore 4, 2, 4, 0, .null)]) (L' := [some (.ref 3), some (.int x1), some (.int x2), some (.int x3), some (.int 0), none]) (st' := []) (w' := w) (g := []) (K := []) (by decide +kernel) rfl rfl rfl rfl jk0 ?_
  refine ev_mask [true, true, true, true, true, false] ?_
  exact t_Knowing_isQuiet_h3 hG hk jfu _ _ _ _ _ _ h
def f_Knowing_fits (x1 : Int32) (x2 : Int32) (w : jW) : Option (Int32 × jW) :=
  Option.bind (f_Rows_at 10 x1 1 w) fun q1 =>
  Option.bind (f_Rows_at 10 x1 2 q1.2) fun q2 =>
  Option.bind (f_Rows_at 4 x2 0 q2.2) fun q3 =>
  if (q1.1 + (q2.2.1 3 1)) < q3.1 then
    some (0, q3.2)
  else
    Option.bind (f_Rows_at 4 x2 1 q3.2) fun q4 =>
    if (q1.1 - (q3.2.1 3 1)) ≤ q4.1 then
      Option.bind (f_Rows_at 4 x2 2 q4.2) fun q5 =>
      if (q2.1 + (q4.2.1 3 2)) < q5.1 then
        some (0, q5.2)
      else
        Option.bind (f_Rows_at 4 x2 3 q5.2) fun q6 =>
        if (q2.1 - (q5.2.1 3 2)) ≤ q6.1 then
          some (1, q6.2)
        else
          some (0, q6.2)
    else
      some (0, q4.2)
set_option maxRecDepth 20000 in
theorem e_Knowing_fits {l : Launch} {G : jG} (hG : jX G) {kk : Nat} (hk : 93 ≤ kk) {x1 : Int32} {x2 : Int32} {w : jW} {z : (Int32 × jW)} (h : f_Knowing_fits x1 x2 w = some z) : Ct l G y_Knowing_fits d_Knowing_fits 0 0 [.ref 3, .int x1, .int x2] (jRx kk) w (some (.int z.1), (jRx kk), z.2) := by
  rw [f_Knowing_fits] at h
  refine Ct.of (L := [some (.ref 3), some (.int x1), some (.int x2), none, none]) (by decide) (Nat.le_of_ble_eq_true rfl) rfl ?_
  refine ev_seg (o := 1) (nL := 5) (q := 6) (xs := [(.aload_n 0, 1, 0, 0, .null), (.getfield 35, 3, 6, 8, .ref 3), (.iload_n 1, 1, 1, 0, .null), (.iconst 1, 1, 0, 0, .int 1)]) (L' := [some (.ref 3), some (.int x1), some (.int x2), none, none]) (st' := [.int 1, .int x1, .ref 10]) (w' := w) (g := []) (K := [(10, 3), (3, 6)]) (by decide +kernel) rfl rfl rfl rfl (jk1 (kz_10 hk) (jk1 (kz_3 hk) jk0)) ?_
  obtain ⟨q1, hq1, h⟩ := jbe h
  refine ev_callV (ci := 3) (a := 10) (y2 := y_Rows_at) (o := 1) (idx := 31) (d2 := d_Rows_at) (n := 2) (mc2 := 0) (ms2 := 0) (As := [.int x1, .int 1]) (st := []) (res2 := (some (.int q1.1), (jRx kk), q1.2)) (by decide +kernel) rfl lk_1_31 mo_Rows_at mv_Rows_at ⟨Nat.le_of_ble_eq_true rfl, Nat.le_of_ble_eq_true rfl⟩ rfl rfl (kz_10 hk) (by decide) rfl (Nat.le_of_ble_eq_true rfl) ⟨Nat.le_refl _, Nat.le_refl _⟩ hG (e_Rows_at hG hk (kz_10 hk) hq1) ?_
  refine ev_seg (o := 1) (nL := 5) (q := 16) (xs := [(.istore_n 3, 1, 3, 0, .null), (.aload_n 0, 1, 0, 0, .null), (.getfield 35, 3, 6, 8, .ref 3), (.iload_n 1, 1, 1, 0, .null), (.iconst 2, 1, 0, 0, .int 2)]) (L' := [some (.ref 3), some (.int x1), some (.int x2), some (.int q1.1), none]) (st' := [.int 2, .int x1, .ref 10]) (w' := q1.2) (g := []) (K := [(10, 3), (3, 6)]) (by decide +kernel) rfl rfl rfl rfl (jk1 (kz_10 hk) (jk1 (kz_3 hk) jk0)) ?_
  obtain ⟨q2, hq2, h⟩ := jbe h
  refine ev_callV (ci := 3) (a := 10) (y2 := y_Rows_at) (o := 1) (idx := 31) (d2 := d_Rows_at) (n := 2) (mc2 := 0) (ms2 := 0) (As := [.int x1, .int 2]) (st := []) (res2 := (some (.int q2.1), (jRx kk), q2.2)) (by decide +kernel) rfl lk_1_31 mo_Rows_at mv_Rows_at ⟨Nat.le_of_ble_eq_true rfl, Nat.le_of_ble_eq_true rfl⟩ rfl rfl (kz_10 hk) (by decide) rfl (Nat.le_of_ble_eq_true rfl) ⟨Nat.le_refl _, Nat.le_refl _⟩ hG (e_Rows_at hG hk (kz_10 hk) hq2) ?_
  refine ev_seg (o := 1) (nL := 5) (q := 33) (xs := [(.istore 4, 2, 4, 0, .null), (.iload_n 3, 1, 3, 0, .null), (.aload_n 0, 1, 0, 0, .null), (.getfield 87, 3, 6, 1, .int 0), (.iadd, 1, 0, 0, .null), (.aload_n 0, 1, 0, 0, .null), (.getfield 91, 3, 6, 5, .ref 3), (.iload_n 2, 1, 2, 0, .null), (.iconst 0, 1, 0, 0, .int 0)]) (L' := [some (.ref 3), some (.int x1), some (.int x2), some (.int q1.1), some (.int q2.1)]) (st' := [.int 0, .int x2, .ref 4, .int (q1.1 + (q2.2.1 3 1))]) (w' := q2.2) (g := []) (K := [(4, 3), (3, 6), (3, 6)]) (by decide +kernel) rfl rfl rfl rfl (jk1 (kz_4 hk) (jk1 (kz_3 hk) (jk1 (kz_3 hk) jk0))) ?_
  obtain ⟨q3, hq3, h⟩ := jbe h
  refine ev_callV (ci := 3) (a := 4) (y2 := y_Rows_at) (o := 1) (idx := 31) (d2 := d_Rows_at) (n := 2) (mc2 := 0) (ms2 := 0) (As := [.int x2, .int 0]) (st := [.int (q1.1 + (q2.2.1 3 1))]) (res2 := (some (.int q3.1), (jRx kk), q3.2)) (by decide +kernel) rfl lk_1_31 mo_Rows_at mv_Rows_at ⟨Nat.le_of_ble_eq_true rfl, Nat.le_of_ble_eq_true rfl⟩ rfl rfl (kz_4 hk) (by decide) rfl (Nat.le_of_ble_eq_true rfl) ⟨Nat.le_refl _, Nat.le_refl _⟩ hG (e_Rows_at hG hk (kz_4 hk) hq3) ?_
  refine ev_icmp_lt (off := 63) (tgt := 99) (by decide +kernel) (by decide) (fun c10 => ?_) (fun c10 => ?_)
  · replace h := jpos c10 h
    refine ev_seg (o := 1) (nL := 5) (q := 100) (xs := [(.iconst 0, 1, 0, 0, .int 0)]) (L' := [some (.ref 3), some (.int x1), some (.int x2), some (.int q1.1), some (.int q2.1)]) (st' := [.int 0]) (w' := q3.2) (g := []) (K := []) (by decide +kernel) rfl rfl rfl rfl jk0 ?_
    cases h
    exact ev_zret (by decide +kernel) rfl rfl rfl rfl rfl
  · replace h := jneg c10 h
    refine ev_seg (o := 1) (nL := 5) (q := 51) (xs := [(.iload_n 3, 1, 3, 0, .null), (.aload_n 0, 1, 0, 0, .null), (.getfield 87, 3, 6, 1, .int 0), (.isub, 1, 0, 0, .null), (.aload_n 0, 1, 0, 0, .null), (.getfield 91, 3, 6, 5, .ref 3), (.iload_n 2, 1, 2, 0, .null), (.iconst 1, 1, 0, 0, .int 1)]) (L' := [some (.ref 3), some (.int x1), some (.int x2), some (.int q1.1), some (.int q2.1)]) (st' := [.int 1, .int x2, .ref 4, .int (q1.1 - (q3.2.1 3 1))]) (w' := q3.2) (g := []) (K := [(4, 3), (3, 6), (3, 6)]) (by decide +kernel) rfl rfl rfl rfl (jk1 (kz_4 hk) (jk1 (kz_3 hk) (jk1 (kz_3 hk) jk0))) ?_
    obtain ⟨q4, hq4, h⟩ := jbe h
    refine ev_callV (ci := 3) (a := 4) (y2 := y_Rows_at) (o := 1) (idx := 31) (d2 := d_Rows_at) (n := 2) (mc2 := 0) (ms2 := 0) (As := [.int x2, .int 1]) (st := [.int (q1.1 - (q3.2.1 3 1))]) (res2 := (some (.int q4.1), (jRx kk), q4.2)) (by decide +kernel) rfl lk_1_31 mo_Rows_at mv_Rows_at ⟨Nat.le_of_ble_eq_true rfl, Nat.le_of_ble_eq_true rfl⟩ rfl rfl (kz_4 hk) (by decide) rfl (Nat.le_of_ble_eq_true rfl) ⟨Nat.le_refl _, Nat.le_refl _⟩ hG (e_Rows_at hG hk (kz_4 hk) hq4) ?_
    refine ev_icmp_gt (off := 45) (tgt := 99) (by decide +kernel) (by decide) (fun c9 => ?_) (fun c9 => ?_)
    · replace h := jneg c9 h
      refine ev_seg (o := 1) (nL := 5) (q := 100) (xs := [(.iconst 0, 1, 0, 0, .int 0)]) (L' := [some (.ref 3), some (.int x1), some (.int x2), some (.int q1.1), some (.int q2.1)]) (st' := [.int 0]) (w' := q4.2) (g := []) (K := []) (by decide +kernel) rfl rfl rfl rfl jk0 ?_
      cases h
      exact ev_zret (by decide +kernel) rfl rfl rfl rfl rfl
    · replace h := jpos c9 h
      refine ev_seg (o := 1) (nL := 5) (q := 70) (xs := [(.iload 4, 2, 4, 0, .null), (.aload_n 0, 1, 0, 0, .null), (.getfield 94, 3, 6, 2, .int 0), (.iadd, 1, 0, 0, .null), (.aload_n 0, 1, 0, 0, .null), (.getfield 91, 3, 6, 5, .ref 3), (.iload_n 2, 1, 2, 0, .null), (.iconst 2, 1, 0, 0, .int 2)]) (L' := [some (.ref 3), some (.int x1), some (.int x2), some (.int q1.1), some (.int q2.1)]) (st' := [.int 2, .int x2, .ref 4, .int (q2.1 + (q4.2.1 3 2))]) (w' := q4.2) (g := []) (K := [(4, 3), (3, 6), (3, 6)]) (by decide +kernel) rfl rfl rfl rfl (jk1 (kz_4 hk) (jk1 (kz_3 hk) (jk1 (kz_3 hk) jk0))) ?_
      obtain ⟨q5, hq5, h⟩ := jbe h
      refine ev_callV (ci := 3) (a := 4) (y2 := y_Rows_at) (o := 1) (idx := 31) (d2 := d_Rows_at) (n := 2) (mc2 := 0) (ms2 := 0) (As := [.int x2, .int 2]) (st := [.int (q2.1 + (q4.2.1 3 2))]) (res2 := (some (.int q5.1), (jRx kk), q5.2)) (by decide +kernel) rfl lk_1_31 mo_Rows_at mv_Rows_at ⟨Nat.le_of_ble_eq_true rfl, Nat.le_of_ble_eq_true rfl⟩ rfl rfl (kz_4 hk) (by decide) rfl (Nat.le_of_ble_eq_true rfl) ⟨Nat.le_refl _, Nat.le_refl _⟩ hG (e_Rows_at hG hk (kz_4 hk) hq5) ?_
      refine ev_icmp_lt (off := 26) (tgt := 99) (by decide +kernel) (by decide) (fun c8 => ?_) (fun c8 => ?_)
      · replace h := jpos c8 h
        refine ev_seg (o := 1) (nL := 5) (q := 100) (xs := [(.iconst 0, 1, 0, 0, .int 0)]) (L' := [some (.ref 3), some (.int x1), some (.int x2), some (.int q1.1), some (.int q2.1)]) (st' := [.int 0]) (w' := q5.2) (g := []) (K := []) (by decide +kernel) rfl rfl rfl rfl jk0 ?_
        cases h
        exact ev_zret (by decide +kernel) rfl rfl rfl rfl rfl
      · replace h := jneg c8 h
        refine ev_seg (o := 1) (nL := 5) (q := 89) (xs := [(.iload 4, 2, 4, 0, .null), (.aload_n 0, 1, 0, 0, .null), (.getfield 94, 3, 6, 2, .int 0), (.isub, 1, 0, 0, .null), (.aload_n 0, 1, 0, 0, .null), (.getfield 91, 3, 6, 5, .ref 3), (.iload_n 2, 1, 2, 0, .null), (.iconst 3, 1, 0, 0, .int 3)]) (L' := [some (.ref 3), some (.int x1), some (.int x2), some (.int q1.1), some (.int q2.1)]) (st' := [.int 3, .int x2, .ref 4, .int (q2.1 - (q5.2.1 3 2))]) (w' := q5.2) (g := []) (K := [(4, 3), (3, 6), (3, 6)]) (by decide +kernel) rfl rfl rfl rfl (jk1 (kz_4 hk) (jk1 (kz_3 hk) (jk1 (kz_3 hk) jk0))) ?_
        obtain ⟨q6, hq6, h⟩ := jbe h
        refine ev_callV (ci := 3) (a := 4) (y2 := y_Rows_at) (o := 1) (idx := 31) (d2 := d_Rows_at) (n := 2) (mc2 := 0) (ms2 := 0) (As := [.int x2, .int 3]) (st := [.int (q2.1 - (q5.2.1 3 2))]) (res2 := (some (.int q6.1), (jRx kk), q6.2)) (by decide +kernel) rfl lk_1_31 mo_Rows_at mv_Rows_at ⟨Nat.le_of_ble_eq_true rfl, Nat.le_of_ble_eq_true rfl⟩ rfl rfl (kz_4 hk) (by decide) rfl (Nat.le_of_ble_eq_true rfl) ⟨Nat.le_refl _, Nat.le_refl _⟩ hG (e_Rows_at hG hk (kz_4 hk) hq6) ?_
        refine ev_icmp_gt (off := 7) (tgt := 99) (by decide +kernel) (by decide) (fun c7 => ?_) (fun c7 => ?_)
        · replace h := jneg c7 h
          refine ev_seg (o := 1) (nL := 5) (q := 100) (xs := [(.iconst 0, 1, 0, 0, .int 0)]) (L' := [some (.ref 3), some (.int x1), some (.int x2), some (.int q1.1), some (.int q2.1)]) (st' := [.int 0]) (w' := q6.2) (g := []) (K := []) (by decide +kernel) rfl rfl rfl rfl jk0 ?_
          cases h
          exact ev_zret (by decide +kernel) rfl rfl rfl rfl rfl
        · replace h := jpos c7 h
          refine ev_seg (o := 1) (nL := 5) (q := 100) (xs := [(.iconst 1, 1, 0, 0, .int 1), (.goto 4, 3, 0, 0, .null)]) (L' := [some (.ref 3), some (.int x1), some (.int x2), some (.int q1.1), some (.int q2.1)]) (st' := [.int 1]) (w' := q6.2) (g := []) (K := []) (by decide +kernel) rfl rfl rfl rfl jk0 ?_
          cases h
          exact ev_zret (by decide +kernel) rfl rfl rfl rfl rfl
def f_Knowing_passPortal_j94 (k45 : Int32 → Int32 → Int32 → Int32 → jW → Option jW) (x2 : Int32) (x3 : Int32) (x4 : Int32) (x5 : Int32) (s0 : Int64) (w : jW) : Option jW :=
  if x4 = 1 then
    if jal [jin x5 4] = true then
    jlw (w.1, (jup w.2 84 (Int32.toNatClampNeg x5) s0)) fun w6 =>
    k45 x2 x3 x4 (x5 + 1) w6
    else none
  else
    if jal [jin x5 4, jin x5 4] = true then
    jlw (w.1, (jup w.2 84 (Int32.toNatClampNeg x5) ((w.2 84 (Int32.toNatClampNeg x5)) ||| s0))) fun w4 =>
    k45 x2 x3 x4 (x5 + 1) w4
    else none
set_option maxRecDepth 20000 in
theorem t_Knowing_passPortal_j94 {l : Launch} {G : jG} (hG : jX G) {kk : Nat} (hk : 93 ≤ kk) {k45 : Int32 → Int32 → Int32 → Int32 → jW → Option jW} (hk45 : ∀ (x2 : Int32) (x3 : Int32) (x4 : Int32) (x5 : Int32) (w : jW) (z : jW), k45 x2 x3 x4 x5 w = some z → Ev l G (jrm d_Knowing_passPortal 0 0) y_Knowing_passPortal (none, (jRx kk), z) 0 0 0 0 45 [some (.ref 83), some (.ref 3), some (.int x2), some (.int x3), some (.int x4), some (.int x5), none, none] [] (jRx kk) w) {x2 : Int32} {x3 : Int32} {x4 : Int32} {x5 : Int32} {s0 : Int64} {w : jW} {z : jW} (h : f_Knowing_passPortal_j94 k45 x2 x3 x4 x5 s0 w = some z) : Ev l G (jrm d_Knowing_passPortal 0 0) y_Knowing_passPortal (none, (jRx kk), z) 0 0 0 0 94 [some (.ref 83), some (.ref 3), some (.int x2), some (.int x3), some (.int x4), some (.int x5), none, none] [.long s0] (jRx kk) w := by
  rw [f_Knowing_passPortal_j94] at h
  refine ev_seg (o := 1) (nL := 8) (q := 105) (xs := [(.lstore 6, 2, 6, 0, .null), (.aload_n 0, 1, 0, 0, .null), (.getfield 9, 3, 1, 0, .ref 22), (.iload 5, 2, 5, 0, .null), (.iload 4, 2, 4, 0, .null), (.iconst 1, 1, 0, 0, .int 1)]) (L' := [some (.ref 83), some (.ref 3), some (.int x2), some (.int x3), some (.int x4), some (.int x5), some (.long s0), none]) (st' := [.int 1, .int x4, .int x5, .ref 84]) (w' := w) (g := []) (K := [(84, 22), (83, 1)]) (by decide +kernel) rfl rfl rfl rfl (jk1 (kz_84 hk) (jk1 (kz_83 hk) jk0)) ?_
  refine ev_icmp_ne (off := 8) (tgt := 113) (by decide +kernel) (by decide) (fun c7 => ?_) (fun c7 => ?_)
  · replace h := jneg c7 h
    obtain ⟨hg3, h⟩ := jgd h
    refine ev_seg (o := 1) (nL := 8) (q := 124) (xs := [(.aload_n 0, 1, 0, 0, .null), (.getfield 9, 3, 1, 0, .ref 22), (.iload 5, 2, 5, 0, .null), (.laload, 1, 0, 0, .null), (.lload 6, 2, 6, 0, .null), (.lor, 1, 0, 0, .null), (.lastore, 1, 0, 0, .null)]) (L' := [some (.ref 83), some (.ref 3), some (.int x2), some (.int x3), some (.int x4), some (.int x5), some (.long s0), none]) (st' := []) (w' := (w.1, (jup w.2 84 (Int32.toNatClampNeg x5) ((w.2 84 (Int32.toNatClampNeg x5)) ||| s0)))) (g := [jin x5 4, jin x5 4]) (K := [(84, 22), (84, 22), (84, 22), (83, 1)]) (by decide +kernel) rfl rfl rfl hg3 (jk1 (kz_84 hk) (jk1 (kz_84 hk) (jk1 (kz_84 hk) (jk1 (kz_83 hk) jk0)))) ?_
    refine jlw_c (P := fun w4 => Ev l G (jrm d_Knowing_passPortal 0 0) y_Knowing_passPortal (none, (jRx kk), z) 0 0 0 0 124 [some (.ref 83), some (.ref 3), some (.int x2), some (.int x3), some (.int x4), some (.int x5), some (.long s0), none] [] (jRx kk) w4) h fun w4 h => ?_
    refine ev_seg (o := 1) (nL := 8) (q := 45) (xs := [(.iinc 5 1, 3, 5, 0, .int 1), (.goto (-82), 3, 0, 0, .null)]) (L' := [some (.ref 83), some (.ref 3), some (.int x2), some (.int x3), some (.int x4), some (.int (x5 + 1)), some (.long s0), none]) (st' := []) (w' := w4) (g := []) (K := []) (by decide +kernel) rfl rfl rfl rfl jk0 ?_
    refine ev_mask [true, true, true, true, true, true, false, false] ?_
    exact hk45 _ _ _ _ _ _ h
  · replace h := jpos c7 h
    obtain ⟨hg5, h⟩ := jgd h
    refine ev_seg (o := 1) (nL := 8) (q := 124) (xs := [(.lload 6, 2, 6, 0, .null), (.goto 13, 3, 0, 0, .null), (.lastore, 1, 0, 0, .null)]) (L' := [some (.ref 83), some (.ref 3), some (.int x2), some (.int x3), some (.int x4), some (.int x5), some (.long s0), none]) (st' := []) (w' := (w.1, (jup w.2 84 (Int32.toNatClampNeg x5) s0))) (g := [jin x5 4]) (K := [(84, 22)]) (by decide +kernel) rfl rfl rfl hg5 (jk1 (kz_84 hk) jk0) ?_
    refine jlw_c (P := fun w6 => Ev l G (jrm d_Knowing_passPortal 0 0) y_Knowing_passPortal (none, (jRx kk), z) 0 0 0 0 124 [some (.ref 83), some (.ref 3), some (.int x2), some (.int x3), some (.int x4), some (.int x5), some (.long s0), none] [] (jRx kk) w6) h fun w6 h => ?_
    refine ev_seg (o := 1) (nL := 8) (q := 45) (xs := [(.iinc 5 1, 3, 5, 0, .int 1), (.goto (-82), 3, 0, 0, .null)]) (L' := [some (.ref 83), some (.ref 3), some (.int x2), some (.int x3), some (.int x4), some (.int (x5 + 1)), some (.long s0), none]) (st' := []) (w' := w6) (g := []) (K := []) (by decide +kernel) rfl rfl rfl rfl jk0 ?_
    refine ev_mask [true, true, true, true, true, true, false, false] ?_
    exact hk45 _ _ _ _ _ _ h
def f_Knowing_passPortal_h45 : Nat → Int32 → Int32 → Int32 → Int32 → jW → Option jW
  | 0, _, _, _, _, _ => none
  | n + 1, x2, x3, x4, x5, w =>
  if x5 < (Int32.ofNat 4) then
    Option.bind (f_Knowing_fits x2 x5 w) fun q1 =>
    if q1.1 = 0 then
      (f_Knowing_passPortal_h45 n) x2 x3 x4 (x5 + 1) q1.2
    else
      if x3 = 0 then
        if jal [jin x5 4] = true then
        f_Knowing_passPortal_j94 (f_Knowing_passPortal_h45 n) x2 x3 x4 x5 (((q1.2.2 84 (Int32.toNatClampNeg x5)) <<< (Int32.toInt64 1 &&& 63)) &&& 2199023255551) q1.2
        else none
      else
        if jal [jin x5 4] = true then
        f_Knowing_passPortal_j94 (f_Knowing_passPortal_h45 n) x2 x3 x4 x5 ((q1.2.2 84 (Int32.toNatClampNeg x5)) >>> (Int32.toInt64 1 &&& 63)) q1.2
        else none
  else
    some w
set_option maxRecDepth 20000 in
theorem t_Knowing_passPortal_h45 {l : Launch} {G : jG} (hG : jX G) {kk : Nat} (hk : 93 ≤ kk) : ∀ (n : Nat) (x2 : Int32) (x3 : Int32) (x4 : Int32) (x5 : Int32) (w : jW) (z : jW), f_Knowing_passPortal_h45 n x2 x3 x4 x5 w = some z → Ev l G (jrm d_Knowing_passPortal 0 0) y_Knowing_passPortal (none, (jRx kk), z) 0 0 0 0 45 [some (.ref 83), some (.ref 3), some (.int x2), some (.int x3), some (.int x4), some (.int x5), none, none] [] (jRx kk) w := by
  intro n
  induction n with
  | zero => intro x2 x3 x4 x5 w z h; simp only [f_Knowing_passPortal_h45] at h; cases h
  | succ n ih =>
    intro x2 x3 x4 x5 w z h
    rw [f_Knowing_passPortal_h45] at h
    refine ev_seg (o := 1) (nL := 8) (q := 52) (xs := [(.iload 5, 2, 5, 0, .null), (.aload_n 0, 1, 0, 0, .null), (.getfield 9, 3, 1, 0, .ref 22), (.arraylength, 1, 22, 0, .null)]) (L' := [some (.ref 83), some (.ref 3), some (.int x2), some (.int x3), some (.int x4), some (.int x5), none, none]) (st' := [.int (Int32.ofNat 4), .int x5]) (w' := w) (g := []) (K := [(84, 22), (84, 22), (83, 1)]) (by decide +kernel) rfl rfl rfl rfl (jk1 (kz_84 hk) (jk1 (kz_84 hk) (jk1 (kz_83 hk) jk0))) ?_
    refine ev_icmp_ge (off := 78) (tgt := 130) (by decide +kernel) (by decide) (fun c11 => ?_) (fun c11 => ?_)
    · replace h := jneg c11 h
      cases h
      exact ev_vret (by decide +kernel) rfl rfl rfl rfl
    · replace h := jpos c11 h
      refine ev_seg (o := 1) (nL := 8) (q := 59) (xs := [(.aload_n 1, 1, 1, 0, .null), (.iload_n 2, 1, 2, 0, .null), (.iload 5, 2, 5, 0, .null)]) (L' := [some (.ref 83), some (.ref 3), some (.int x2), some (.int x3), some (.int x4), some (.int x5), none, none]) (st' := [.int x5, .int x2, .ref 3]) (w' := w) (g := []) (K := []) (by decide +kernel) rfl rfl rfl rfl jk0 ?_
      obtain ⟨q1, hq1, h⟩ := jbe h
      refine ev_callS (y2 := y_Knowing_fits) (o := 1) (idx := 83) (d2 := d_Knowing_fits) (n := 3) (mc2 := 0) (ms2 := 0) (As := [.ref 3, .int x2, .int x5]) (st := []) (res2 := (some (.int q1.1), (jRx kk), q1.2)) (by decide +kernel) rfl lk_1_83 mo_Knowing_fits ms_Knowing_fits ⟨Nat.le_of_ble_eq_true rfl, Nat.le_of_ble_eq_true rfl⟩ rfl rfl (Nat.le_of_ble_eq_true rfl) ⟨Nat.le_refl _, Nat.le_refl _⟩ hG (e_Knowing_fits hG hk hq1) ?_
      refine ev_if_eq (off := 62) (tgt := 124) (by decide +kernel) (by decide) (fun c10 => ?_) (fun c10 => ?_)
      · replace h := jpos c10 h
        refine ev_seg (o := 1) (nL := 8) (q := 45) (xs := [(.iinc 5 1, 3, 5, 0, .int 1), (.goto (-82), 3, 0, 0, .null)]) (L' := [some (.ref 83), some (.ref 3), some (.int x2), some (.int x3), some (.int x4), some (.int (x5 + 1)), none, none]) (st' := []) (w' := q1.2) (g := []) (K := []) (by decide +kernel) rfl rfl rfl rfl jk0 ?_
        refine ev_mask [true, true, true, true, true, true, false, false] ?_
        exact ih _ _ _ _ _ _ h
      · replace h := jneg c10 h
        refine ev_seg (o := 1) (nL := 8) (q := 66) (xs := [(.iload_n 3, 1, 3, 0, .null)]) (L' := [some (.ref 83), some (.ref 3), some (.int x2), some (.int x3), some (.int x4), some (.int x5), none, none]) (st' := [.int x3]) (w' := q1.2) (g := []) (K := []) (by decide +kernel) rfl rfl rfl rfl jk0 ?_
        refine ev_if_eq (off := 15) (tgt := 81) (by decide +kernel) (by decide) (fun c9 => ?_) (fun c9 => ?_)
        · replace h := jpos c9 h
          obtain ⟨hg2, h⟩ := jgd h
          refine ev_seg (o := 1) (nL := 8) (q := 94) (xs := [(.aload_n 0, 1, 0, 0, .null), (.getfield 9, 3, 1, 0, .ref 22), (.iload 5, 2, 5, 0, .null), (.laload, 1, 0, 0, .null), (.iconst 1, 1, 0, 0, .int 1), (.lshl, 1, 0, 0, .null), (.ldc2_w 46, 3, 0, 0, .long 2199023255551), (.land, 1, 0, 0, .null)]) (L' := [some (.ref 83), some (.ref 3), some (.int x2), some (.int x3), some (.int x4), some (.int x5), none, none]) (st' := [.long (((q1.2.2 84 (Int32.toNatClampNeg x5)) <<< (Int32.toInt64 1 &&& 63)) &&& 2199023255551)]) (w' := q1.2) (g := [jin x5 4]) (K := [(84, 22), (84, 22), (83, 1)]) (by decide +kernel) rfl rfl rfl hg2 (jk1 (kz_84 hk) (jk1 (kz_84 hk) (jk1 (kz_83 hk) jk0))) ?_
          refine ev_mask [true, true, true, true, true, true, false, false] ?_
          exact t_Knowing_passPortal_j94 hG hk ih h
        · replace h := jneg c9 h
          obtain ⟨hg8, h⟩ := jgd h
          refine ev_seg (o := 1) (nL := 8) (q := 94) (xs := [(.aload_n 0, 1, 0, 0, .null), (.getfield 9, 3, 1, 0, .ref 22), (.iload 5, 2, 5, 0, .null), (.laload, 1, 0, 0, .null), (.iconst 1, 1, 0, 0, .int 1), (.lshr, 1, 0, 0, .null), (.goto 16, 3, 0, 0, .null)]) (L' := [some (.ref 83), some (.ref 3), some (.int x2), some (.int x3), some (.int x4), some (.int x5), none, none]) (st' := [.long ((q1.2.2 84 (Int32.toNatClampNeg x5)) >>> (Int32.toInt64 1 &&& 63))]) (w' := q1.2) (g := [jin x5 4]) (K := [(84, 22), (84, 22), (83, 1)]) (by decide +kernel) rfl rfl rfl hg8 (jk1 (kz_84 hk) (jk1 (kz_84 hk) (jk1 (kz_83 hk) jk0))) ?_
          refine ev_mask [true, true, true, true, true, true, false, false] ?_
          exact t_Knowing_passPortal_j94 hG hk ih h
def f_Knowing_passPortal_h6 : Nat → Int32 → Int32 → Int32 → Int32 → jW → Option jW
  | 0, _, _, _, _, _ => none
  | n + 1, x2, x3, x4, x5, w =>
  if x5 < (Int32.ofNat 4) then
    Option.bind (f_Knowing_fits x2 x5 w) fun q12 =>
    if q12.1 = 0 then
      (f_Knowing_passPortal_h6 n) x2 x3 (x4 + 0) (x5 + 1) q12.2
    else
      (f_Knowing_passPortal_h6 n) x2 x3 (x4 + 1) (x5 + 1) q12.2
  else
    f_Knowing_passPortal_h45 jfu x2 x3 x4 0 w
set_option maxRecDepth 20000 in
theorem t_Knowing_passPortal_h6 {l : Launch} {G : jG} (hG : jX G) {kk : Nat} (hk : 93 ≤ kk) : ∀ (n : Nat) (x2 : Int32) (x3 : Int32) (x4 : Int32) (x5 : Int32) (w : jW) (z : jW), f_Knowing_passPortal_h6 n x2 x3 x4 x5 w = some z → Ev l G (jrm d_Knowing_passPortal 0 0) y_Knowing_passPortal (none, (jRx kk), z) 0 0 0 0 6 [some (.ref 83), some (.ref 3), some (.int x2), some (.int x3), some (.int x4), some (.int x5), none, none] [] (jRx kk) w := by
  intro n
  induction n with
  | zero => intro x2 x3 x4 x5 w z h; simp only [f_Knowing_passPortal_h6] at h; cases h
  | succ n ih =>
    intro x2 x3 x4 x5 w z h
    rw [f_Knowing_passPortal_h6] at h
    refine ev_seg (o := 1) (nL := 8) (q := 13) (xs := [(.iload 5, 2, 5, 0, .null), (.aload_n 0, 1, 0, 0, .null), (.getfield 9, 3, 1, 0, .ref 22), (.arraylength, 1, 22, 0, .null)]) (L' := [some (.ref 83), some (.ref 3), some (.int x2), some (.int x3), some (.int x4), some (.int x5), none, none]) (st' := [.int (Int32.ofNat 4), .int x5]) (w' := w) (g := []) (K := [(84, 22), (84, 22), (83, 1)]) (by decide +kernel) rfl rfl rfl rfl (jk1 (kz_84 hk) (jk1 (kz_84 hk) (jk1 (kz_83 hk) jk0))) ?_
    refine ev_icmp_ge (off := 29) (tgt := 42) (by decide +kernel) (by decide) (fun c14 => ?_) (fun c14 => ?_)
    · replace h := jneg c14 h
      refine ev_seg (o := 1) (nL := 8) (q := 45) (xs := [(.iconst 0, 1, 0, 0, .int 0), (.istore 5, 2, 5, 0, .null)]) (L' := [some (.ref 83), some (.ref 3), some (.int x2), some (.int x3), some (.int x4), some (.int 0), none, none]) (st' := []) (w' := w) (g := []) (K := []) (by decide +kernel) rfl rfl rfl rfl jk0 ?_
      refine ev_mask [true, true, true, true, true, true, false, false] ?_
      exact t_Knowing_passPortal_h45 hG hk jfu _ _ _ _ _ _ h
    · replace h := jpos c14 h
      refine ev_seg (o := 1) (nL := 8) (q := 22) (xs := [(.iload 4, 2, 4, 0, .null), (.aload_n 1, 1, 1, 0, .null), (.iload_n 2, 1, 2, 0, .null), (.iload 5, 2, 5, 0, .null)]) (L' := [some (.ref 83), some (.ref 3), some (.int x2), some (.int x3), some (.int x4), some (.int x5), none, none]) (st' := [.int x5, .int x2, .ref 3, .int x4]) (w' := w) (g := []) (K := []) (by decide +kernel) rfl rfl rfl rfl jk0 ?_
      obtain ⟨q12, hq12, h⟩ := jbe h
      refine ev_callS (y2 := y_Knowing_fits) (o := 1) (idx := 83) (d2 := d_Knowing_fits) (n := 3) (mc2 := 0) (ms2 := 0) (As := [.ref 3, .int x2, .int x5]) (st := [.int x4]) (res2 := (some (.int q12.1), (jRx kk), q12.2)) (by decide +kernel) rfl lk_1_83 mo_Knowing_fits ms_Knowing_fits ⟨Nat.le_of_ble_eq_true rfl, Nat.le_of_ble_eq_true rfl⟩ rfl rfl (Nat.le_of_ble_eq_true rfl) ⟨Nat.le_refl _, Nat.le_refl _⟩ hG (e_Knowing_fits hG hk hq12) ?_
      refine ev_if_eq (off := 7) (tgt := 32) (by decide +kernel) (by decide) (fun c13 => ?_) (fun c13 => ?_)
      · replace h := jpos c13 h
        refine ev_seg (o := 1) (nL := 8) (q := 6) (xs := [(.iconst 0, 1, 0, 0, .int 0), (.iadd, 1, 0, 0, .null), (.istore 4, 2, 4, 0, .null), (.iinc 5 1, 3, 5, 0, .int 1), (.goto (-33), 3, 0, 0, .null)]) (L' := [some (.ref 83), some (.ref 3), some (.int x2), some (.int x3), some (.int (x4 + 0)), some (.int (x5 + 1)), none, none]) (st' := []) (w' := q12.2) (g := []) (K := []) (by decide +kernel) rfl rfl rfl rfl jk0 ?_
        refine ev_mask [true, true, true, true, true, true, false, false] ?_
        exact ih _ _ _ _ _ _ h
      · replace h := jneg c13 h
        refine ev_seg (o := 1) (nL := 8) (q := 6) (xs := [(.iconst 1, 1, 0, 0, .int 1), (.goto 4, 3, 0, 0, .null), (.iadd, 1, 0, 0, .null), (.istore 4, 2, 4, 0, .null), (.iinc 5 1, 3, 5, 0, .int 1), (.goto (-33), 3, 0, 0, .null)]) (L' := [some (.ref 83), some (.ref 3), some (.int x2), some (.int x3), some (.int (x4 + 1)), some (.int (x5 + 1)), none, none]) (st' := []) (w' := q12.2) (g := []) (K := []) (by decide +kernel) rfl rfl rfl rfl jk0 ?_
        refine ev_mask [true, true, true, true, true, true, false, false] ?_
        exact ih _ _ _ _ _ _ h
def f_Knowing_passPortal (x2 : Int32) (x3 : Int32) (w : jW) : Option jW :=
  f_Knowing_passPortal_h6 jfu x2 x3 0 0 w
set_option maxRecDepth 20000 in
theorem e_Knowing_passPortal {l : Launch} {G : jG} (hG : jX G) {kk : Nat} (hk : 93 ≤ kk) {x2 : Int32} {x3 : Int32} {w : jW} {z : jW} (h : f_Knowing_passPortal x2 x3 w = some z) : Ct l G y_Knowing_passPortal d_Knowing_passPortal 0 0 [.ref 83, .ref 3, .int x2, .int x3] (jRx kk) w (none, (jRx kk), z) := by
  rw [f_Knowing_passPortal] at h
  refine Ct.of (L := [some (.ref 83), some (.ref 3), some (.int x2), some (.int x3), none, none, none, none]) (by decide) (Nat.le_of_ble_eq_true rfl) rfl ?_
  refine ev_seg (o := 1) (nL := 8) (q := 6) (xs := [(.iconst 0, 1, 0, 0, .int 0), (.istore 4, 2, 4, 0, .null), (.iconst 0, 1, 0, 0, .int 0), (.istore 5, 2, 5, 0, .null)]) (L' := [some (.ref 83), some (.ref 3), some (.int x2), some (.int x3), some (.int 0), some (.int 0), none, none]) (st' := []) (w' := w) (g := []) (K := []) (by decide +kernel) rfl rfl rfl rfl jk0 ?_
  refine ev_mask [true, true, true, true, true, true, false, false] ?_
  exact t_Knowing_passPortal_h6 hG hk jfu _ _ _ _ _ _ h
def f_Knowing_comeAndGo_j101 (k45 : Int32 → Int32 → Int32 → jW → Option jW) (x2 : Int32) (x3 : Int32) (x4 : Int32) (w : jW) : Option jW :=
  Option.bind (f_Rows_at 12 x4 2 w) fun q4 =>
  if q4.1 = x2 then
    Option.bind (f_Rows_at 12 x4 4 q4.2) fun q5 =>
    if q5.1 = x3 then
      Option.bind (f_Rows_at 12 x4 0 q5.2) fun q6 =>
      Option.bind (f_Knowing_passPortal q6.1 0 q6.2) fun q7 =>
      k45 x2 x3 (x4 + 1) q7
    else
      k45 x2 x3 (x4 + 1) q5.2
  else
    k45 x2 x3 (x4 + 1) q4.2
set_option maxRecDepth 20000 in
theorem t_Knowing_comeAndGo_j101 {l : Launch} {G : jG} (hG : jX G) {kk : Nat} (hk : 93 ≤ kk) {k45 : Int32 → Int32 → Int32 → jW → Option jW} (hk45 : ∀ (x2 : Int32) (x3 : Int32) (x4 : Int32) (w : jW) (z : jW), k45 x2 x3 x4 w = some z → Ev l G (jrm d_Knowing_comeAndGo 0 0) y_Knowing_comeAndGo (none, (jRx kk), z) 0 0 0 0 45 [some (.ref 83), some (.ref 3), some (.int x2), some (.int x3), some (.int x4)] [] (jRx kk) w) {x2 : Int32} {x3 : Int32} {x4 : Int32} {w : jW} {z : jW} (h : f_Knowing_comeAndGo_j101 k45 x2 x3 x4 w = some z) : Ev l G (jrm d_Knowing_comeAndGo 0 0) y_Knowing_comeAndGo (none, (jRx kk), z) 0 0 0 0 101 [some (.ref 83), some (.ref 3), some (.int x2), some (.int x3), some (.int x4)] [] (jRx kk) w := by
  rw [f_Knowing_comeAndGo_j101] at h
  refine ev_seg (o := 1) (nL := 5) (q := 108) (xs := [(.aload_n 1, 1, 1, 0, .null), (.getfield 76, 3, 6, 9, .ref 3), (.iload 4, 2, 4, 0, .null), (.iconst 2, 1, 0, 0, .int 2)]) (L' := [some (.ref 83), some (.ref 3), some (.int x2), some (.int x3), some (.int x4)]) (st' := [.int 2, .int x4, .ref 12]) (w' := w) (g := []) (K := [(12, 3), (3, 6)]) (by decide +kernel) rfl rfl rfl rfl (jk1 (kz_12 hk) (jk1 (kz_3 hk) jk0)) ?_
  obtain ⟨q4, hq4, h⟩ := jbe h
  refine ev_callV (ci := 3) (a := 12) (y2 := y_Rows_at) (o := 1) (idx := 31) (d2 := d_Rows_at) (n := 2) (mc2 := 0) (ms2 := 0) (As := [.int x4, .int 2]) (st := []) (res2 := (some (.int q4.1), (jRx kk), q4.2)) (by decide +kernel) rfl lk_1_31 mo_Rows_at mv_Rows_at ⟨Nat.le_of_ble_eq_true rfl, Nat.le_of_ble_eq_true rfl⟩ rfl rfl (kz_12 hk) (by decide) rfl (Nat.le_of_ble_eq_true rfl) ⟨Nat.le_refl _, Nat.le_refl _⟩ hG (e_Rows_at hG hk (kz_12 hk) hq4) ?_
  refine ev_seg (o := 1) (nL := 5) (q := 112) (xs := [(.iload_n 2, 1, 2, 0, .null)]) (L' := [some (.ref 83), some (.ref 3), some (.int x2), some (.int x3), some (.int x4)]) (st' := [.int x2, .int q4.1]) (w' := q4.2) (g := []) (K := []) (by decide +kernel) rfl rfl rfl rfl jk0 ?_
  refine ev_icmp_ne (off := 33) (tgt := 145) (by decide +kernel) (by decide) (fun c9 => ?_) (fun c9 => ?_)
  · replace h := jneg c9 h
    refine ev_seg (o := 1) (nL := 5) (q := 45) (xs := [(.iinc 4 1, 3, 4, 0, .int 1), (.goto (-103), 3, 0, 0, .null)]) (L' := [some (.ref 83), some (.ref 3), some (.int x2), some (.int x3), some (.int (x4 + 1))]) (st' := []) (w' := q4.2) (g := []) (K := []) (by decide +kernel) rfl rfl rfl rfl jk0 ?_
    refine ev_mask [true, true, true, true, true] ?_
    exact hk45 _ _ _ _ _ h
  · replace h := jpos c9 h
    refine ev_seg (o := 1) (nL := 5) (q := 122) (xs := [(.aload_n 1, 1, 1, 0, .null), (.getfield 76, 3, 6, 9, .ref 3), (.iload 4, 2, 4, 0, .null), (.iconst 4, 1, 0, 0, .int 4)]) (L' := [some (.ref 83), some (.ref 3), some (.int x2), some (.int x3), some (.int x4)]) (st' := [.int 4, .int x4, .ref 12]) (w' := q4.2) (g := []) (K := [(12, 3), (3, 6)]) (by decide +kernel) rfl rfl rfl rfl (jk1 (kz_12 hk) (jk1 (kz_3 hk) jk0)) ?_
    obtain ⟨q5, hq5, h⟩ := jbe h
    refine ev_callV (ci := 3) (a := 12) (y2 := y_Rows_at) (o := 1) (idx := 31) (d2 := d_Rows_at) (n := 2) (mc2 := 0) (ms2 := 0) (As := [.int x4, .int 4]) (st := []) (res2 := (some (.int q5.1), (jRx kk), q5.2)) (by decide +kernel) rfl lk_1_31 mo_Rows_at mv_Rows_at ⟨Nat.le_of_ble_eq_true rfl, Nat.le_of_ble_eq_true rfl⟩ rfl rfl (kz_12 hk) (by decide) rfl (Nat.le_of_ble_eq_true rfl) ⟨Nat.le_refl _, Nat.le_refl _⟩ hG (e_Rows_at hG hk (kz_12 hk) hq5) ?_
    refine ev_seg (o := 1) (nL := 5) (q := 126) (xs := [(.iload_n 3, 1, 3, 0, .null)]) (L' := [some (.ref 83), some (.ref 3), some (.int x2), some (.int x3), some (.int x4)]) (st' := [.int x3, .int q5.1]) (w' := q5.2) (g := []) (K := []) (by decide +kernel) rfl rfl rfl rfl jk0 ?_
    refine ev_icmp_ne (off := 19) (tgt := 145) (by decide +kernel) (by decide) (fun c8 => ?_) (fun c8 => ?_)
    · replace h := jneg c8 h
      refine ev_seg (o := 1) (nL := 5) (q := 45) (xs := [(.iinc 4 1, 3, 4, 0, .int 1), (.goto (-103), 3, 0, 0, .null)]) (L' := [some (.ref 83), some (.ref 3), some (.int x2), some (.int x3), some (.int (x4 + 1))]) (st' := []) (w' := q5.2) (g := []) (K := []) (by decide +kernel) rfl rfl rfl rfl jk0 ?_
      refine ev_mask [true, true, true, true, true] ?_
      exact hk45 _ _ _ _ _ h
    · replace h := jpos c8 h
      refine ev_seg (o := 1) (nL := 5) (q := 138) (xs := [(.aload_n 0, 1, 0, 0, .null), (.aload_n 1, 1, 1, 0, .null), (.aload_n 1, 1, 1, 0, .null), (.getfield 76, 3, 6, 9, .ref 3), (.iload 4, 2, 4, 0, .null), (.iconst 0, 1, 0, 0, .int 0)]) (L' := [some (.ref 83), some (.ref 3), some (.int x2), some (.int x3), some (.int x4)]) (st' := [.int 0, .int x4, .ref 12, .ref 3, .ref 83]) (w' := q5.2) (g := []) (K := [(12, 3), (3, 6)]) (by decide +kernel) rfl rfl rfl rfl (jk1 (kz_12 hk) (jk1 (kz_3 hk) jk0)) ?_
      obtain ⟨q6, hq6, h⟩ := jbe h
      refine ev_callV (ci := 3) (a := 12) (y2 := y_Rows_at) (o := 1) (idx := 31) (d2 := d_Rows_at) (n := 2) (mc2 := 0) (ms2 := 0) (As := [.int x4, .int 0]) (st := [.ref 3, .ref 83]) (res2 := (some (.int q6.1), (jRx kk), q6.2)) (by decide +kernel) rfl lk_1_31 mo_Rows_at mv_Rows_at ⟨Nat.le_of_ble_eq_true rfl, Nat.le_of_ble_eq_true rfl⟩ rfl rfl (kz_12 hk) (by decide) rfl (Nat.le_of_ble_eq_true rfl) ⟨Nat.le_refl _, Nat.le_refl _⟩ hG (e_Rows_at hG hk (kz_12 hk) hq6) ?_
      refine ev_seg (o := 1) (nL := 5) (q := 142) (xs := [(.iconst 0, 1, 0, 0, .int 0)]) (L' := [some (.ref 83), some (.ref 3), some (.int x2), some (.int x3), some (.int x4)]) (st' := [.int 0, .int q6.1, .ref 3, .ref 83]) (w' := q6.2) (g := []) (K := []) (by decide +kernel) rfl rfl rfl rfl jk0 ?_
      obtain ⟨q7, hq7, h⟩ := jbe h
      refine ev_callV (ci := 1) (a := 83) (y2 := y_Knowing_passPortal) (o := 1) (idx := 79) (d2 := d_Knowing_passPortal) (n := 3) (mc2 := 0) (ms2 := 0) (As := [.ref 3, .int q6.1, .int 0]) (st := []) (res2 := (none, (jRx kk), q7)) (by decide +kernel) rfl lk_1_79 mo_Knowing_passPortal mv_Knowing_passPortal ⟨Nat.le_of_ble_eq_true rfl, Nat.le_of_ble_eq_true rfl⟩ rfl rfl (kz_83 hk) (by decide) rfl (Nat.le_of_ble_eq_true rfl) ⟨Nat.le_refl _, Nat.le_refl _⟩ hG (e_Knowing_passPortal hG hk hq7) ?_
      refine ev_seg (o := 1) (nL := 5) (q := 45) (xs := [(.iinc 4 1, 3, 4, 0, .int 1), (.goto (-103), 3, 0, 0, .null)]) (L' := [some (.ref 83), some (.ref 3), some (.int x2), some (.int x3), some (.int (x4 + 1))]) (st' := []) (w' := q7) (g := []) (K := []) (by decide +kernel) rfl rfl rfl rfl jk0 ?_
      refine ev_mask [true, true, true, true, true] ?_
      exact hk45 _ _ _ _ _ h
def f_Knowing_comeAndGo_h45 : Nat → Int32 → Int32 → Int32 → jW → Option jW
  | 0, _, _, _, _ => none
  | n + 1, x2, x3, x4, w =>
  Option.bind (f_Rows_count 12 w) fun q2 =>
  if x4 < q2.1 then
    Option.bind (f_Rows_at 12 x4 1 q2.2) fun q3 =>
    if q3.1 = x2 then
      Option.bind (f_Rows_at 12 x4 3 q3.2) fun q10 =>
      if q10.1 = x3 then
        Option.bind (f_Rows_at 12 x4 0 q10.2) fun q11 =>
        Option.bind (f_Knowing_passPortal q11.1 1 q11.2) fun q12 =>
        f_Knowing_comeAndGo_j101 (f_Knowing_comeAndGo_h45 n) x2 x3 x4 q12
      else
        f_Knowing_comeAndGo_j101 (f_Knowing_comeAndGo_h45 n) x2 x3 x4 q10.2
    else
      f_Knowing_comeAndGo_j101 (f_Knowing_comeAndGo_h45 n) x2 x3 x4 q3.2
  else
    some q2.2
set_option maxRecDepth 20000 in
theorem t_Knowing_comeAndGo_h45 {l : Launch} {G : jG} (hG : jX G) {kk : Nat} (hk : 93 ≤ kk) : ∀ (n : Nat) (x2 : Int32) (x3 : Int32) (x4 : Int32) (w : jW) (z : jW), f_Knowing_comeAndGo_h45 n x2 x3 x4 w = some z → Ev l G (jrm d_Knowing_comeAndGo 0 0) y_Knowing_comeAndGo (none, (jRx kk), z) 0 0 0 0 45 [some (.ref 83), some (.ref 3), some (.int x2), some (.int x3), some (.int x4)] [] (jRx kk) w := by
  intro n
  induction n with
  | zero => intro x2 x3 x4 w z h; simp only [f_Knowing_comeAndGo_h45] at h; cases h
  | succ n ih =>
    intro x2 x3 x4 w z h
    rw [f_Knowing_comeAndGo_h45] at h
    refine ev_seg (o := 1) (nL := 5) (q := 51) (xs := [(.iload 4, 2, 4, 0, .null), (.aload_n 1, 1, 1, 0, .null), (.getfield 76, 3, 6, 9, .ref 3)]) (L' := [some (.ref 83), some (.ref 3), some (.int x2), some (.int x3), some (.int x4)]) (st' := [.ref 12, .int x4]) (w' := w) (g := []) (K := [(12, 3), (3, 6)]) (by decide +kernel) rfl rfl rfl rfl (jk1 (kz_12 hk) (jk1 (kz_3 hk) jk0)) ?_
    obtain ⟨q2, hq2, h⟩ := jbe h
    refine ev_callV (ci := 3) (a := 12) (y2 := y_Rows_count) (o := 1) (idx := 25) (d2 := d_Rows_count) (n := 0) (mc2 := 0) (ms2 := 0) (As := []) (st := [.int x4]) (res2 := (some (.int q2.1), (jRx kk), q2.2)) (by decide +kernel) rfl lk_1_25 mo_Rows_count mv_Rows_count ⟨Nat.le_of_ble_eq_true rfl, Nat.le_of_ble_eq_true rfl⟩ rfl rfl (kz_12 hk) (by decide) rfl (Nat.le_of_ble_eq_true rfl) ⟨Nat.le_refl _, Nat.le_refl _⟩ hG (e_Rows_count hG hk (kz_12 hk) hq2) ?_
    refine ev_icmp_ge (off := 97) (tgt := 151) (by decide +kernel) (by decide) (fun c15 => ?_) (fun c15 => ?_)
    · replace h := jneg c15 h
      cases h
      exact ev_vret (by decide +kernel) rfl rfl rfl rfl
    · replace h := jpos c15 h
      refine ev_seg (o := 1) (nL := 5) (q := 64) (xs := [(.aload_n 1, 1, 1, 0, .null), (.getfield 76, 3, 6, 9, .ref 3), (.iload 4, 2, 4, 0, .null), (.iconst 1, 1, 0, 0, .int 1)]) (L' := [some (.ref 83), some (.ref 3), some (.int x2), some (.int x3), some (.int x4)]) (st' := [.int 1, .int x4, .ref 12]) (w' := q2.2) (g := []) (K := [(12, 3), (3, 6)]) (by decide +kernel) rfl rfl rfl rfl (jk1 (kz_12 hk) (jk1 (kz_3 hk) jk0)) ?_
      obtain ⟨q3, hq3, h⟩ := jbe h
      refine ev_callV (ci := 3) (a := 12) (y2 := y_Rows_at) (o := 1) (idx := 31) (d2 := d_Rows_at) (n := 2) (mc2 := 0) (ms2 := 0) (As := [.int x4, .int 1]) (st := []) (res2 := (some (.int q3.1), (jRx kk), q3.2)) (by decide +kernel) rfl lk_1_31 mo_Rows_at mv_Rows_at ⟨Nat.le_of_ble_eq_true rfl, Nat.le_of_ble_eq_true rfl⟩ rfl rfl (kz_12 hk) (by decide) rfl (Nat.le_of_ble_eq_true rfl) ⟨Nat.le_refl _, Nat.le_refl _⟩ hG (e_Rows_at hG hk (kz_12 hk) hq3) ?_
      refine ev_seg (o := 1) (nL := 5) (q := 68) (xs := [(.iload_n 2, 1, 2, 0, .null)]) (L' := [some (.ref 83), some (.ref 3), some (.int x2), some (.int x3), some (.int x4)]) (st' := [.int x2, .int q3.1]) (w' := q3.2) (g := []) (K := []) (by decide +kernel) rfl rfl rfl rfl jk0 ?_
      refine ev_icmp_ne (off := 33) (tgt := 101) (by decide +kernel) (by decide) (fun c14 => ?_) (fun c14 => ?_)
      · replace h := jneg c14 h
        refine ev_mask [true, true, true, true, true] ?_
        exact t_Knowing_comeAndGo_j101 hG hk ih h
      · replace h := jpos c14 h
        refine ev_seg (o := 1) (nL := 5) (q := 78) (xs := [(.aload_n 1, 1, 1, 0, .null), (.getfield 76, 3, 6, 9, .ref 3), (.iload 4, 2, 4, 0, .null), (.iconst 3, 1, 0, 0, .int 3)]) (L' := [some (.ref 83), some (.ref 3), some (.int x2), some (.int x3), some (.int x4)]) (st' := [.int 3, .int x4, .ref 12]) (w' := q3.2) (g := []) (K := [(12, 3), (3, 6)]) (by decide +kernel) rfl rfl rfl rfl (jk1 (kz_12 hk) (jk1 (kz_3 hk) jk0)) ?_
        obtain ⟨q10, hq10, h⟩ := jbe h
        refine ev_callV (ci := 3) (a := 12) (y2 := y_Rows_at) (o := 1) (idx := 31) (d2 := d_Rows_at) (n := 2) (mc2 := 0) (ms2 := 0) (As := [.int x4, .int 3]) (st := []) (res2 := (some (.int q10.1), (jRx kk), q10.2)) (by decide +kernel) rfl lk_1_31 mo_Rows_at mv_Rows_at ⟨Nat.le_of_ble_eq_true rfl, Nat.le_of_ble_eq_true rfl⟩ rfl rfl (kz_12 hk) (by decide) rfl (Nat.le_of_ble_eq_true rfl) ⟨Nat.le_refl _, Nat.le_refl _⟩ hG (e_Rows_at hG hk (kz_12 hk) hq10) ?_
        refine ev_seg (o := 1) (nL := 5) (q := 82) (xs := [(.iload_n 3, 1, 3, 0, .null)]) (L' := [some (.ref 83), some (.ref 3), some (.int x2), some (.int x3), some (.int x4)]) (st' := [.int x3, .int q10.1]) (w' := q10.2) (g := []) (K := []) (by decide +kernel) rfl rfl rfl rfl jk0 ?_
        refine ev_icmp_ne (off := 19) (tgt := 101) (by decide +kernel) (by decide) (fun c13 => ?_) (fun c13 => ?_)
        · replace h := jneg c13 h
          refine ev_mask [true, true, true, true, true] ?_
          exact t_Knowing_comeAndGo_j101 hG hk ih h
        · replace h := jpos c13 h
          refine ev_seg (o := 1) (nL := 5) (q := 94) (xs := [(.aload_n 0, 1, 0, 0, .null), (.aload_n 1, 1, 1, 0, .null), (.aload_n 1, 1, 1, 0, .null), (.getfield 76, 3, 6, 9, .ref 3), (.iload 4, 2, 4, 0, .null), (.iconst 0, 1, 0, 0, .int 0)]) (L' := [some (.ref 83), some (.ref 3), some (.int x2), some (.int x3), some (.int x4)]) (st' := [.int 0, .int x4, .ref 12, .ref 3, .ref 83]) (w' := q10.2) (g := []) (K := [(12, 3), (3, 6)]) (by decide +kernel) rfl rfl rfl rfl (jk1 (kz_12 hk) (jk1 (kz_3 hk) jk0)) ?_
          obtain ⟨q11, hq11, h⟩ := jbe h
          refine ev_callV (ci := 3) (a := 12) (y2 := y_Rows_at) (o := 1) (idx := 31) (d2 := d_Rows_at) (n := 2) (mc2 := 0) (ms2 := 0) (As := [.int x4, .int 0]) (st := [.ref 3, .ref 83]) (res2 := (some (.int q11.1), (jRx kk), q11.2)) (by decide +kernel) rfl lk_1_31 mo_Rows_at mv_Rows_at ⟨Nat.le_of_ble_eq_true rfl, Nat.le_of_ble_eq_true rfl⟩ rfl rfl (kz_12 hk) (by decide) rfl (Nat.le_of_ble_eq_true rfl) ⟨Nat.le_refl _, Nat.le_refl _⟩ hG (e_Rows_at hG hk (kz_12 hk) hq11) ?_
          refine ev_seg (o := 1) (nL := 5) (q := 98) (xs := [(.iconst 1, 1, 0, 0, .int 1)]) (L' := [some (.ref 83), some (.ref 3), some (.int x2), some (.int x3), some (.int x4)]) (st' := [.int 1, .int q11.1, .ref 3, .ref 83]) (w' := q11.2) (g := []) (K := []) (by decide +kernel) rfl rfl rfl rfl jk0 ?_
          obtain ⟨q12, hq12, h⟩ := jbe h
          refine ev_callV (ci := 1) (a := 83) (y2 := y_Knowing_passPortal) (o := 1) (idx := 79) (d2 := d_Knowing_passPortal) (n := 3) (mc2 := 0) (ms2 := 0) (As := [.ref 3, .int q11.1, .int 1]) (st := []) (res2 := (none, (jRx kk), q12)) (by decide +kernel) rfl lk_1_79 mo_Knowing_passPortal mv_Knowing_passPortal ⟨Nat.le_of_ble_eq_true rfl, Nat.le_of_ble_eq_true rfl⟩ rfl rfl (kz_83 hk) (by decide) rfl (Nat.le_of_ble_eq_true rfl) ⟨Nat.le_refl _, Nat.le_refl _⟩ hG (e_Knowing_passPortal hG hk hq12) ?_
          refine ev_mask [true, true, true, true, true] ?_
          exact t_Knowing_comeAndGo_j101 hG hk ih h
def f_Knowing_comeAndGo_h15 : Nat → Int32 → jW → Option jW
  | 0, _, _ => none
  | n + 1, x4, w =>
  if x4 < (Int32.ofNat 4) then
    if jal [jin x4 4] = true then
    jlw (w.1, (jup w.2 84 (Int32.toNatClampNeg x4) 2199023255551)) fun w17 =>
    (f_Knowing_comeAndGo_h15 n) (x4 + 1) w17
    else none
  else
    some w
set_option maxRecDepth 20000 in
theorem t_Knowing_comeAndGo_h15 {l : Launch} {G : jG} (hG : jX G) {kk : Nat} (hk : 93 ≤ kk) : ∀ (n : Nat) (x4 : Int32) (w : jW) (z : jW), f_Knowing_comeAndGo_h15 n x4 w = some z → Ev l G (jrm d_Knowing_comeAndGo 0 0) y_Knowing_comeAndGo (none, (jRx kk), z) 0 0 0 0 15 [some (.ref 83), none, none, none, some (.int x4)] [] (jRx kk) w := by
  intro n
  induction n with
  | zero => intro x4 w z h; simp only [f_Knowing_comeAndGo_h15] at h; cases h
  | succ n ih =>
    intro x4 w z h
    rw [f_Knowing_comeAndGo_h15] at h
    refine ev_seg (o := 1) (nL := 5) (q := 22) (xs := [(.iload 4, 2, 4, 0, .null), (.aload_n 0, 1, 0, 0, .null), (.getfield 9, 3, 1, 0, .ref 22), (.arraylength, 1, 22, 0, .null)]) (L' := [some (.ref 83), none, none, none, some (.int x4)]) (st' := [.int (Int32.ofNat 4), .int x4]) (w' := w) (g := []) (K := [(84, 22), (84, 22), (83, 1)]) (by decide +kernel) rfl rfl rfl rfl (jk1 (kz_84 hk) (jk1 (kz_84 hk) (jk1 (kz_83 hk) jk0))) ?_
    refine ev_icmp_ge (off := 19) (tgt := 41) (by decide +kernel) (by decide) (fun c18 => ?_) (fun c18 => ?_)
    · replace h := jneg c18 h
      cases h
      exact ev_vret (by decide +kernel) rfl rfl rfl rfl
    · replace h := jpos c18 h
      obtain ⟨hg16, h⟩ := jgd h
      refine ev_seg (o := 1) (nL := 5) (q := 35) (xs := [(.aload_n 0, 1, 0, 0, .null), (.getfield 9, 3, 1, 0, .ref 22), (.iload 4, 2, 4, 0, .null), (.ldc2_w 46, 3, 0, 0, .long 2199023255551), (.lastore, 1, 0, 0, .null)]) (L' := [some (.ref 83), none, none, none, some (.int x4)]) (st' := []) (w' := (w.1, (jup w.2 84 (Int32.toNatClampNeg x4) 2199023255551))) (g := [jin x4 4]) (K := [(84, 22), (84, 22), (83, 1)]) (by decide +kernel) rfl rfl rfl hg16 (jk1 (kz_84 hk) (jk1 (kz_84 hk) (jk1 (kz_83 hk) jk0))) ?_
      refine jlw_c (P := fun w17 => Ev l G (jrm d_Knowing_comeAndGo 0 0) y_Knowing_comeAndGo (none, (jRx kk), z) 0 0 0 0 35 [some (.ref 83), none, none, none, some (.int x4)] [] (jRx kk) w17) h fun w17 h => ?_
      refine ev_seg (o := 1) (nL := 5) (q := 15) (xs := [(.iinc 4 1, 3, 4, 0, .int 1), (.goto (-23), 3, 0, 0, .null)]) (L' := [some (.ref 83), none, none, none, some (.int (x4 + 1))]) (st' := []) (w' := w17) (g := []) (K := []) (by decide +kernel) rfl rfl rfl rfl jk0 ?_
      refine ev_mask [true, false, false, false, true] ?_
      exact ih _ _ _ h
def f_Knowing_comeAndGo (x2 : Int32) (x3 : Int32) (w : jW) : Option jW :=
  Option.bind (f_Rows_at 6 x2 2 w) fun q1 =>
  if q1.1 = 0 then
    f_Knowing_comeAndGo_h15 jfu 0 q1.2
  else
    f_Knowing_comeAndGo_h45 jfu x2 x3 0 q1.2
set_option maxRecDepth 20000 in
theorem e_Knowing_comeAndGo {l : Launch} {G : jG} (hG : jX G) {kk : Nat} (hk : 93 ≤ kk) {x2 : Int32} {x3 : Int32} {w : jW} {z : jW} (h : f_Knowing_comeAndGo x2 x3 w = some z) : Ct l G y_Knowing_comeAndGo d_Knowing_comeAndGo 0 0 [.ref 83, .ref 3, .int x2, .int x3] (jRx kk) w (none, (jRx kk), z) := by
  rw [f_Knowing_comeAndGo] at h
  refine Ct.of (L := [some (.ref 83), some (.ref 3), some (.int x2), some (.int x3), none]) (by decide) (Nat.le_of_ble_eq_true rfl) rfl ?_
  refine ev_seg (o := 1) (nL := 5) (q := 6) (xs := [(.aload_n 1, 1, 1, 0, .null), (.getfield 56, 3, 6, 6, .ref 3), (.iload_n 2, 1, 2, 0, .null), (.iconst 2, 1, 0, 0, .int 2)]) (L' := [some (.ref 83), some (.ref 3), some (.int x2), some (.int x3), none]) (st' := [.int 2, .int x2, .ref 6]) (w' := w) (g := []) (K := [(6, 3), (3, 6)]) (by decide +kernel) rfl rfl rfl rfl (jk1 (kz_6 hk) (jk1 (kz_3 hk) jk0)) ?_
  obtain ⟨q1, hq1, h⟩ := jbe h
  refine ev_callV (ci := 3) (a := 6) (y2 := y_Rows_at) (o := 1) (idx := 31) (d2 := d_Rows_at) (n := 2) (mc2 := 0) (ms2 := 0) (As := [.int x2, .int 2]) (st := []) (res2 := (some (.int q1.1), (jRx kk), q1.2)) (by decide +kernel) rfl lk_1_31 mo_Rows_at mv_Rows_at ⟨Nat.le_of_ble_eq_true rfl, Nat.le_of_ble_eq_true rfl⟩ rfl rfl (kz_6 hk) (by decide) rfl (Nat.le_of_ble_eq_true rfl) ⟨Nat.le_refl _, Nat.le_refl _⟩ hG (e_Rows_at hG hk (kz_6 hk) hq1) ?_
  refine ev_if_ne (off := 33) (tgt := 42) (by decide +kernel) (by decide) (fun c19 => ?_) (fun c19 => ?_)
  · replace h := jneg c19 h
    refine ev_seg (o := 1) (nL := 5) (q := 45) (xs := [(.iconst 0, 1, 0, 0, .int 0), (.istore 4, 2, 4, 0, .null)]) (L' := [some (.ref 83), some (.ref 3), some (.int x2), some (.int x3), some (.int 0)]) (st' := []) (w' := q1.2) (g := []) (K := []) (by decide +kernel) rfl rfl rfl rfl jk0 ?_
    refine ev_mask [true, true, true, true, true] ?_
    exact t_Knowing_comeAndGo_h45 hG hk jfu _ _ _ _ _ h
  · replace h := jpos c19 h
    refine ev_seg (o := 1) (nL := 5) (q := 15) (xs := [(.iconst 0, 1, 0, 0, .int 0), (.istore 4, 2, 4, 0, .null)]) (L' := [some (.ref 83), some (.ref 3), some (.int x2), some (.int x3), some (.int 0)]) (st' := []) (w' := q1.2) (g := []) (K := []) (by decide +kernel) rfl rfl rfl rfl jk0 ?_
    refine ev_mask [true, false, false, false, true] ?_
    exact t_Knowing_comeAndGo_h15 hG hk jfu _ _ _ h
def f_Knowing_isPossible (x1 : Int32) (x2 : Int32) (w : jW) : Option (Int32 × jW) :=
  if x1 < 0 then
    some (0, w)
  else
    if x1 < (Int32.ofNat 4) then
      if x2 < 0 then
        some (0, w)
      else
        if x2 ≤ 40 then
          if jal [jin x1 4] = true then
          if (lg_cmp (((w.2 84 (Int32.toNatClampNeg x1)) >>> (Int32.toInt64 x2 &&& 63)) &&& 1) 1) = 0 then
            some (1, w)
          else
            some (0, w)
          else none
        else
          some (0, w)
    else
      some (0, w)
set_option maxRecDepth 20000 in
theorem e_Knowing_isPossible {l : Launch} {G : jG} (hG : jX G) {kk : Nat} (hk : 93 ≤ kk) {x1 : Int32} {x2 : Int32} {w : jW} {z : (Int32 × jW)} (h : f_Knowing_isPossible x1 x2 w = some z) : Ct l G y_Knowing_isPossible d_Knowing_isPossible 0 0 [.ref 83, .int x1, .int x2] (jRx kk) w (some (.int z.1), (jRx kk), z.2) := by
  rw [f_Knowing_isPossible] at h
  refine Ct.of (L := [some (.ref 83), some (.int x1), some (.int x2)]) (by decide) (Nat.le_of_ble_eq_true rfl) rfl ?_
  refine ev_seg (o := 1) (nL := 3) (q := 1) (xs := [(.iload_n 1, 1, 1, 0, .null)]) (L' := [some (.ref 83), some (.int x1), some (.int x2)]) (st' := [.int x1]) (w' := w) (g := []) (K := []) (by decide +kernel) rfl rfl rfl rfl jk0 ?_
  refine ev_if_lt (off := 41) (tgt := 42) (by decide +kernel) (by decide) (fun c6 => ?_) (fun c6 => ?_)
  · replace h := jpos c6 h
    refine ev_seg (o := 1) (nL := 3) (q := 43) (xs := [(.iconst 0, 1, 0, 0, .int 0)]) (L' := [some (.ref 83), some (.int x1), some (.int x2)]) (st' := [.int 0]) (w' := w) (g := []) (K := []) (by decide +kernel) rfl rfl rfl rfl jk0 ?_
    cases h
    exact ev_zret (by decide +kernel) rfl rfl rfl rfl rfl
  · replace h := jneg c6 h
    refine ev_seg (o := 1) (nL := 3) (q := 10) (xs := [(.iload_n 1, 1, 1, 0, .null), (.aload_n 0, 1, 0, 0, .null), (.getfield 9, 3, 1, 0, .ref 22), (.arraylength, 1, 22, 0, .null)]) (L' := [some (.ref 83), some (.int x1), some (.int x2)]) (st' := [.int (Int32.ofNat 4), .int x1]) (w' := w) (g := []) (K := [(84, 22), (84, 22), (83, 1)]) (by decide +kernel) rfl rfl rfl rfl (jk1 (kz_84 hk) (jk1 (kz_84 hk) (jk1 (kz_83 hk) jk0))) ?_
    refine ev_icmp_ge (off := 32) (tgt := 42) (by decide +kernel) (by decide) (fun c5 => ?_) (fun c5 => ?_)
    · replace h := jneg c5 h
      refine ev_seg (o := 1) (nL := 3) (q := 43) (xs := [(.iconst 0, 1, 0, 0, .int 0)]) (L' := [some (.ref 83), some (.int x1), some (.int x2)]) (st' := [.int 0]) (w' := w) (g := []) (K := []) (by decide +kernel) rfl rfl rfl rfl jk0 ?_
      cases h
      exact ev_zret (by decide +kernel) rfl rfl rfl rfl rfl
    · replace h := jpos c5 h
      refine ev_seg (o := 1) (nL := 3) (q := 14) (xs := [(.iload_n 2, 1, 2, 0, .null)]) (L' := [some (.ref 83), some (.int x1), some (.int x2)]) (st' := [.int x2]) (w' := w) (g := []) (K := []) (by decide +kernel) rfl rfl rfl rfl jk0 ?_
      refine ev_if_lt (off := 28) (tgt := 42) (by decide +kernel) (by decide) (fun c4 => ?_) (fun c4 => ?_)
      · replace h := jpos c4 h
        refine ev_seg (o := 1) (nL := 3) (q := 43) (xs := [(.iconst 0, 1, 0, 0, .int 0)]) (L' := [some (.ref 83), some (.int x1), some (.int x2)]) (st' := [.int 0]) (w' := w) (g := []) (K := []) (by decide +kernel) rfl rfl rfl rfl jk0 ?_
        cases h
        exact ev_zret (by decide +kernel) rfl rfl rfl rfl rfl
      · replace h := jneg c4 h
        refine ev_seg (o := 1) (nL := 3) (q := 20) (xs := [(.iload_n 2, 1, 2, 0, .null), (.bipush 40, 2, 0, 0, .int 40)]) (L' := [some (.ref 83), some (.int x1), some (.int x2)]) (st' := [.int 40, .int x2]) (w' := w) (g := []) (K := []) (by decide +kernel) rfl rfl rfl rfl jk0 ?_
        refine ev_icmp_gt (off := 22) (tgt := 42) (by decide +kernel) (by decide) (fun c3 => ?_) (fun c3 => ?_)
        · replace h := jneg c3 h
          refine ev_seg (o := 1) (nL := 3) (q := 43) (xs := [(.iconst 0, 1, 0, 0, .int 0)]) (L' := [some (.ref 83), some (.int x1), some (.int x2)]) (st' := [.int 0]) (w' := w) (g := []) (K := []) (by decide +kernel) rfl rfl rfl rfl jk0 ?_
          cases h
          exact ev_zret (by decide +kernel) rfl rfl rfl rfl rfl
        · replace h := jpos c3 h
          obtain ⟨hg1, h⟩ := jgd h
          refine ev_seg (o := 1) (nL := 3) (q := 35) (xs := [(.aload_n 0, 1, 0, 0, .null), (.getfield 9, 3, 1, 0, .ref 22), (.iload_n 1, 1, 1, 0, .null), (.laload, 1, 0, 0, .null), (.iload_n 2, 1, 2, 0, .null), (.lshr, 1, 0, 0, .null), (.lconst 1, 1, 0, 0, .long 1), (.land, 1, 0, 0, .null), (.lconst 1, 1, 0, 0, .long 1), (.lcmp, 1, 0, 0, .null)]) (L' := [some (.ref 83), some (.int x1), some (.int x2)]) (st' := [.int (lg_cmp (((w.2 84 (Int32.toNatClampNeg x1)) >>> (Int32.toInt64 x2 &&& 63)) &&& 1) 1)]) (w' := w) (g := [jin x1 4]) (K := [(84, 22), (84, 22), (83, 1)]) (by decide +kernel) rfl rfl rfl hg1 (jk1 (kz_84 hk) (jk1 (kz_84 hk) (jk1 (kz_83 hk) jk0))) ?_
          refine ev_if_ne (off := 7) (tgt := 42) (by decide +kernel) (by decide) (fun c2 => ?_) (fun c2 => ?_)
          · replace h := jneg c2 h
            refine ev_seg (o := 1) (nL := 3) (q := 43) (xs := [(.iconst 0, 1, 0, 0, .int 0)]) (L' := [some (.ref 83), some (.int x1), some (.int x2)]) (st' := [.int 0]) (w' := w) (g := []) (K := []) (by decide +kernel) rfl rfl rfl rfl jk0 ?_
            cases h
            exact ev_zret (by decide +kernel) rfl rfl rfl rfl rfl
          · replace h := jpos c2 h
            refine ev_seg (o := 1) (nL := 3) (q := 43) (xs := [(.iconst 1, 1, 0, 0, .int 1), (.goto 4, 3, 0, 0, .null)]) (L' := [some (.ref 83), some (.int x1), some (.int x2)]) (st' := [.int 1]) (w' := w) (g := []) (K := []) (by decide +kernel) rfl rfl rfl rfl jk0 ?_
            cases h
            exact ev_zret (by decide +kernel) rfl rfl rfl rfl rfl
def f_Knowing_least_h2 : Nat → Int32 → Int32 → jW → Option (Int32 × jW)
  | 0, _, _, _ => none
  | n + 1, x1, x2, w =>
  if x2 ≤ 40 then
    Option.bind (f_Knowing_isPossible x1 x2 w) fun q1 =>
    if q1.1 = 0 then
      (f_Knowing_least_h2 n) x1 (x2 + 1) q1.2
    else
      some (x2, q1.2)
  else
    some ((-1), w)
set_option maxRecDepth 20000 in
theorem t_Knowing_least_h2 {l : Launch} {G : jG} (hG : jX G) {kk : Nat} (hk : 93 ≤ kk) : ∀ (n : Nat) (x1 : Int32) (x2 : Int32) (w : jW) (z : (Int32 × jW)), f_Knowing_least_h2 n x1 x2 w = some z → Ev l G (jrm d_Knowing_least 0 0) y_Knowing_least (some (.int z.1), (jRx kk), z.2) 0 0 0 0 2 [some (.ref 83), some (.int x1), some (.int x2)] [] (jRx kk) w := by
  intro n
  induction n with
  | zero => intro x1 x2 w z h; simp only [f_Knowing_least_h2] at h; cases h
  | succ n ih =>
    intro x1 x2 w z h
    rw [f_Knowing_least_h2] at h
    refine ev_seg (o := 1) (nL := 3) (q := 5) (xs := [(.iload_n 2, 1, 2, 0, .null), (.bipush 40, 2, 0, 0, .int 40)]) (L' := [some (.ref 83), some (.int x1), some (.int x2)]) (st' := [.int 40, .int x2]) (w' := w) (g := []) (K := []) (by decide +kernel) rfl rfl rfl rfl jk0 ?_
    refine ev_icmp_gt (off := 20) (tgt := 25) (by decide +kernel) (by decide) (fun c3 => ?_) (fun c3 => ?_)
    · replace h := jneg c3 h
      refine ev_seg (o := 1) (nL := 3) (q := 26) (xs := [(.iconst (-1), 1, 0, 0, .int (-1))]) (L' := [some (.ref 83), some (.int x1), some (.int x2)]) (st' := [.int (-1)]) (w' := w) (g := []) (K := []) (by decide +kernel) rfl rfl rfl rfl jk0 ?_
      cases h
      exact ev_iret (by decide +kernel) rfl rfl rfl rfl
    · replace h := jpos c3 h
      refine ev_seg (o := 1) (nL := 3) (q := 11) (xs := [(.aload_n 0, 1, 0, 0, .null), (.iload_n 1, 1, 1, 0, .null), (.iload_n 2, 1, 2, 0, .null)]) (L' := [some (.ref 83), some (.int x1), some (.int x2)]) (st' := [.int x2, .int x1, .ref 83]) (w' := w) (g := []) (K := []) (by decide +kernel) rfl rfl rfl rfl jk0 ?_
      obtain ⟨q1, hq1, h⟩ := jbe h
      refine ev_callV (ci := 1) (a := 83) (y2 := y_Knowing_isPossible) (o := 1) (idx := 42) (d2 := d_Knowing_isPossible) (n := 2) (mc2 := 0) (ms2 := 0) (As := [.int x1, .int x2]) (st := []) (res2 := (some (.int q1.1), (jRx kk), q1.2)) (by decide +kernel) rfl lk_1_42 mo_Knowing_isPossible mv_Knowing_isPossible ⟨Nat.le_of_ble_eq_true rfl, Nat.le_of_ble_eq_true rfl⟩ rfl rfl (kz_83 hk) (by decide) rfl (Nat.le_of_ble_eq_true rfl) ⟨Nat.le_refl _, Nat.le_refl _⟩ hG (e_Knowing_isPossible hG hk hq1) ?_
      refine ev_if_eq (off := 5) (tgt := 19) (by decide +kernel) (by decide) (fun c2 => ?_) (fun c2 => ?_)
      · replace h := jpos c2 h
        refine ev_seg (o := 1) (nL := 3) (q := 2) (xs := [(.iinc 2 1, 3, 2, 0, .int 1), (.goto (-20), 3, 0, 0, .null)]) (L' := [some (.ref 83), some (.int x1), some (.int (x2 + 1))]) (st' := []) (w' := q1.2) (g := []) (K := []) (by decide +kernel) rfl rfl rfl rfl jk0 ?_
        refine ev_mask [true, true, true] ?_
        exact ih _ _ _ _ h
      · replace h := jneg c2 h
        refine ev_seg (o := 1) (nL := 3) (q := 18) (xs := [(.iload_n 2, 1, 2, 0, .null)]) (L' := [some (.ref 83), some (.int x1), some (.int x2)]) (st' := [.int x2]) (w' := q1.2) (g := []) (K := []) (by decide +kernel) rfl rfl rfl rfl jk0 ?_
        cases h
        exact ev_iret (by decide +kernel) rfl rfl rfl rfl
def f_Knowing_least (x1 : Int32) (w : jW) : Option (Int32 × jW) :=
  f_Knowing_least_h2 jfu x1 0 w
set_option maxRecDepth 20000 in
theorem e_Knowing_least {l : Launch} {G : jG} (hG : jX G) {kk : Nat} (hk : 93 ≤ kk) {x1 : Int32} {w : jW} {z : (Int32 × jW)} (h : f_Knowing_least x1 w = some z) : Ct l G y_Knowing_least d_Knowing_least 0 0 [.ref 83, .int x1] (jRx kk) w (some (.int z.1), (jRx kk), z.2) := by
  rw [f_Knowing_least] at h
  refine Ct.of (L := [some (.ref 83), some (.int x1), none]) (by decide) (Nat.le_of_ble_eq_true rfl) rfl ?_
  refine ev_seg (o := 1) (nL := 3) (q := 2) (xs := [(.iconst 0, 1, 0, 0, .int 0), (.istore_n 2, 1, 2, 0, .null)]) (L' := [some (.ref 83), some (.int x1), some (.int 0)]) (st' := []) (w' := w) (g := []) (K := []) (by decide +kernel) rfl rfl rfl rfl jk0 ?_
  refine ev_mask [true, true, true] ?_
  exact t_Knowing_least_h2 hG hk jfu _ _ _ _ h
def f_Knowing_between (x0 : Int32) (x1 : Int32) (w : jW) : Option (Int64 × jW) :=
  some (((((1 : Int64) <<< (Int32.toInt64 (if 0 < ((if 40 < x1 then 40 else x1) + 1) then ((if 40 < x1 then 40 else x1) + 1) else 0) &&& 63)) - 1) &&& ((((1 : Int64) <<< (Int32.toInt64 (if 0 < (if 41 < x0 then 41 else x0) then (if 41 < x0 then 41 else x0) else 0) &&& 63)) - 1) ^^^ (-1))), w)
set_option maxRecDepth 20000 in
theorem e_Knowing_between {l : Launch} {G : jG} (hG : jX G) {kk : Nat} (hk : 93 ≤ kk) {x0 : Int32} {x1 : Int32} {w : jW} {z : (Int64 × jW)} (h : f_Knowing_between x0 x1 w = some z) : Ct l G y_Knowing_between d_Knowing_between 0 0 [.int x0, .int x1] (jRx kk) w (some (.long z.1), (jRx kk), z.2) := by
  rw [f_Knowing_between] at h
  refine Ct.of (L := [some (.int x0), some (.int x1), none, none, none, none]) (by decide) (Nat.le_of_ble_eq_true rfl) rfl ?_
  refine ev_seg (o := 1) (nL := 6) (q := 5) (xs := [(.lconst 1, 1, 0, 0, .long 1), (.iconst 0, 1, 0, 0, .int 0), (.iload_n 0, 1, 0, 0, .null), (.bipush 41, 2, 0, 0, .int 41)]) (L' := [some (.int x0), some (.int x1), none, none, none, none]) (st' := [.int 41, .int x0, .int 0, .long 1]) (w' := w) (g := []) (K := []) (by decide +kernel) rfl rfl rfl rfl jk0 ?_
  refine ev_min (o := 1) (idx := 108) (by decide +kernel) rfl lk_1_108 ms_min hMath mc_min (Nat.le_of_ble_eq_true rfl) (Nat.le_of_ble_eq_true rfl) (Nat.le_of_ble_eq_true rfl) (Nat.le_of_ble_eq_true rfl) ?_
  refine ev_max (o := 1) (idx := 113) (by decide +kernel) rfl lk_1_113 ms_max hMath mc_max (Nat.le_of_ble_eq_true rfl) (Nat.le_of_ble_eq_true rfl) (Nat.le_of_ble_eq_true rfl) (Nat.le_of_ble_eq_true rfl) ?_
  refine ev_seg (o := 1) (nL := 6) (q := 20) (xs := [(.lshl, 1, 0, 0, .null), (.lconst 1, 1, 0, 0, .long 1), (.lsub, 1, 0, 0, .null), (.lstore_n 2, 1, 2, 0, .null), (.lconst 1, 1, 0, 0, .long 1), (.iconst 0, 1, 0, 0, .int 0), (.iload_n 1, 1, 1, 0, .null), (.bipush 40, 2, 0, 0, .int 40)]) (L' := [some (.int x0), some (.int x1), some (.long (((1 : Int64) <<< (Int32.toInt64 (if 0 < (if 41 < x0 then 41 else x0) then (if 41 < x0 then 41 else x0) else 0) &&& 63)) - 1)), none, none, none]) (st' := [.int 40, .int x1, .int 0, .long 1]) (w' := w) (g := []) (K := []) (by decide +kernel) rfl rfl rfl rfl jk0 ?_
  refine ev_min (o := 1) (idx := 108) (by decide +kernel) rfl lk_1_108 ms_min hMath mc_min (Nat.le_of_ble_eq_true rfl) (Nat.le_of_ble_eq_true rfl) (Nat.le_of_ble_eq_true rfl) (Nat.le_of_ble_eq_true rfl) ?_
  refine ev_seg (o := 1) (nL := 6) (q := 25) (xs := [(.iconst 1, 1, 0, 0, .int 1), (.iadd, 1, 0, 0, .null)]) (L' := [some (.int x0), some (.int x1), some (.long (((1 : Int64) <<< (Int32.toInt64 (if 0 < (if 41 < x0 then 41 else x0) then (if 41 < x0 then 41 else x0) else 0) &&& 63)) - 1)), none, none, none]) (st' := [.int ((if 40 < x1 then 40 else x1) + 1), .int 0, .long 1]) (w' := w) (g := []) (K := []) (by decide +kernel) rfl rfl rfl rfl jk0 ?_
  refine ev_max (o := 1) (idx := 113) (by decide +kernel) rfl lk_1_113 ms_max hMath mc_max (Nat.le_of_ble_eq_true rfl) (Nat.le_of_ble_eq_true rfl) (Nat.le_of_ble_eq_true rfl) (Nat.le_of_ble_eq_true rfl) ?_
  refine ev_seg (o := 1) (nL := 6) (q := 41) (xs := [(.lshl, 1, 0, 0, .null), (.lconst 1, 1, 0, 0, .long 1), (.lsub, 1, 0, 0, .null), (.lstore 4, 2, 4, 0, .null), (.lload 4, 2, 4, 0, .null), (.lload_n 2, 1, 2, 0, .null), (.ldc2_w 116, 3, 0, 0, .long (-1)), (.lxor, 1, 0, 0, .null), (.land, 1, 0, 0, .null)]) (L' := [some (.int x0), some (.int x1), some (.long (((1 : Int64) <<< (Int32.toInt64 (if 0 < (if 41 < x0 then 41 else x0) then (if 41 < x0 then 41 else x0) else 0) &&& 63)) - 1)), none, some (.long (((1 : Int64) <<< (Int32.toInt64 (if 0 < ((if 40 < x1 then 40 else x1) + 1) then ((if 40 < x1 then 40 else x1) + 1) else 0) &&& 63)) - 1)), none]) (st' := [.long ((((1 : Int64) <<< (Int32.toInt64 (if 0 < ((if 40 < x1 then 40 else x1) + 1) then ((if 40 < x1 then 40 else x1) + 1) else 0) &&& 63)) - 1) &&& ((((1 : Int64) <<< (Int32.toInt64 (if 0 < (if 41 < x0 then 41 else x0) then (if 41 < x0 then 41 else x0) else 0) &&& 63)) - 1) ^^^ (-1)))]) (w' := w) (g := []) (K := []) (by decide +kernel) rfl rfl rfl rfl jk0 ?_
  cases h
  exact ev_lret (by decide +kernel) rfl rfl rfl rfl
def f_Knowing_greatest_h3 : Nat → Int32 → Int32 → jW → Option (Int32 × jW)
  | 0, _, _, _ => none
  | n + 1, x1, x2, w =>
  if x2 < 0 then
    some ((-1), w)
  else
    Option.bind (f_Knowing_isPossible x1 x2 w) fun q1 =>
    if q1.1 = 0 then
      (f_Knowing_greatest_h3 n) x1 (x2 + (-1)) q1.2
    else
      some (x2, q1.2)
set_option maxRecDepth 20000 in
theorem t_Knowing_greatest_h3 {l : Launch} {G : jG} (hG : jX G) {kk : Nat} (hk : 93 ≤ kk) : ∀ (n : Nat) (x1 : Int32) (x2 : Int32) (w : jW) (z : (Int32 × jW)), f_Knowing_greatest_h3 n x1 x2 w = some z → Ev l G (jrm d_Knowing_greatest 0 0) y_Knowing_greatest (some (.int z.1), (jRx kk), z.2) 0 0 0 0 3 [some (.ref 83), some (.int x1), some (.int x2)] [] (jRx kk) w := by
  intro n
  induction n with
  | zero => intro x1 x2 w z h; simp only [f_Knowing_greatest_h3] at h; cases h
  | succ n ih =>
    intro x1 x2 w z h
    rw [f_Knowing_greatest_h3] at h
    refine ev_seg (o := 1) (nL := 3) (q := 4) (xs := [(.iload_n 2, 1, 2, 0, .null)]) (L' := [some (.ref 83), some (.int x1), some (.int x2)]) (st' := [.int x2]) (w' := w) (g := []) (K := []) (by decide +kernel) rfl rfl rfl rfl jk0 ?_
    refine ev_if_lt (off := 20) (tgt := 24) (by decide +kernel) (by decide) (fun c3 => ?_) (fun c3 => ?_)
    · replace h := jpos c3 h
      refine ev_seg (o := 1) (nL := 3) (q := 25) (xs := [(.iconst (-1), 1, 0, 0, .int (-1))]) (L' := [some (.ref 83), some (.int x1), some (.int x2)]) (st' := [.int (-1)]) (w' := w) (g := []) (K := []) (by decide +kernel) rfl rfl rfl rfl jk0 ?_
      cases h
      exact ev_iret (by decide +kernel) rfl rfl rfl rfl
    · replace h := jneg c3 h
      refine ev_seg (o := 1) (nL := 3) (q := 10) (xs := [(.aload_n 0, 1, 0, 0, .null), (.iload_n 1, 1, 1, 0, .null), (.iload_n 2, 1, 2, 0, .null)]) (L' := [some (.ref 83), some (.int x1), some (.int x2)]) (st' := [.int x2, .int x1, .ref 83]) (w' := w) (g := []) (K := []) (by decide +kernel) rfl rfl rfl rfl jk0 ?_
      obtain ⟨q1, hq1, h⟩ := jbe h
      refine ev_callV (ci := 1) (a := 83) (y2 := y_Knowing_isPossible) (o := 1) (idx := 42) (d2 := d_Knowing_isPossible) (n := 2) (mc2 := 0) (ms2 := 0) (As := [.int x1, .int x2]) (st := []) (res2 := (some (.int q1.1), (jRx kk), q1.2)) (by decide +kernel) rfl lk_1_42 mo_Knowing_isPossible mv_Knowing_isPossible ⟨Nat.le_of_ble_eq_true rfl, Nat.le_of_ble_eq_true rfl⟩ rfl rfl (kz_83 hk) (by decide) rfl (Nat.le_of_ble_eq_true rfl) ⟨Nat.le_refl _, Nat.le_refl _⟩ hG (e_Knowing_isPossible hG hk hq1) ?_
      refine ev_if_eq (off := 5) (tgt := 18) (by decide +kernel) (by decide) (fun c2 => ?_) (fun c2 => ?_)
      · replace h := jpos c2 h
        refine ev_seg (o := 1) (nL := 3) (q := 3) (xs := [(.iinc 2 (-1), 3, 2, 0, .int (-1)), (.goto (-18), 3, 0, 0, .null)]) (L' := [some (.ref 83), some (.int x1), some (.int (x2 + (-1)))]) (st' := []) (w' := q1.2) (g := []) (K := []) (by decide +kernel) rfl rfl rfl rfl jk0 ?_
        refine ev_mask [true, true, true] ?_
        exact ih _ _ _ _ h
      · replace h := jneg c2 h
        refine ev_seg (o := 1) (nL := 3) (q := 17) (xs := [(.iload_n 2, 1, 2, 0, .null)]) (L' := [some (.ref 83), some (.int x1), some (.int x2)]) (st' := [.int x2]) (w' := q1.2) (g := []) (K := []) (by decide +kernel) rfl rfl rfl rfl jk0 ?_
        cases h
        exact ev_iret (by decide +kernel) rfl rfl rfl rfl
def f_Knowing_greatest (x1 : Int32) (w : jW) : Option (Int32 × jW) :=
  f_Knowing_greatest_h3 jfu x1 40 w
set_option maxRecDepth 20000 in
theorem e_Knowing_greatest {l : Launch} {G : jG} (hG : jX G) {kk : Nat} (hk : 93 ≤ kk) {x1 : Int32} {w : jW} {z : (Int32 × jW)} (h : f_Knowing_greatest x1 w = some z) : Ct l G y_Knowing_greatest d_Knowing_greatest 0 0 [.ref 83, .int x1] (jRx kk) w (some (.int z.1), (jRx kk), z.2) := by
  rw [f_Knowing_greatest] at h
  refine Ct.of (L := [some (.ref 83), some (.int x1), none]) (by decide) (Nat.le_of_ble_eq_true rfl) rfl ?_
  refine ev_seg (o := 1) (nL := 3) (q := 3) (xs := [(.bipush 40, 2, 0, 0, .int 40), (.istore_n 2, 1, 2, 0, .null)]) (L' := [some (.ref 83), some (.int x1), some (.int 40)]) (st' := []) (w' := w) (g := []) (K := []) (by decide +kernel) rfl rfl rfl rfl jk0 ?_
  refine ev_mask [true, true, true] ?_
  exact t_Knowing_greatest_h3 hG hk jfu _ _ _ _ h
def f_Knowing_spread_j43 (k2 : Int32 → Int32 → jW → Option jW) (x1 : Int32) (x2 : Int32) (w : jW) : Option jW :=
  if x1 = 3 then
    if jal [jin x2 4] = true then
    if (lg_cmp (w.2 84 (Int32.toNatClampNeg x2)) 0) = 0 then
      k2 x1 (x2 + 1) w
    else
      Option.bind (f_Knowing_greatest x2 w) fun q2 =>
      Option.bind (f_Knowing_between 0 q2.1 q2.2) fun q3 =>
      if jal [jin x2 4] = true then
      jlw (q3.2.1, (jup q3.2.2 84 (Int32.toNatClampNeg x2) q3.1)) fun w5 =>
      k2 x1 (x2 + 1) w5
      else none
    else none
  else
    k2 x1 (x2 + 1) w
set_option maxRecDepth 20000 in
theorem t_Knowing_spread_j43 {l : Launch} {G : jG} (hG : jX G) {kk : Nat} (hk : 93 ≤ kk) {k2 : Int32 → Int32 → jW → Option jW} (hk2 : ∀ (x1 : Int32) (x2 : Int32) (w : jW) (z : jW), k2 x1 x2 w = some z → Ev l G (jrm d_Knowing_spread 0 0) y_Knowing_spread (none, (jRx kk), z) 0 0 0 0 2 [some (.ref 83), some (.int x1), some (.int x2)] [] (jRx kk) w) {x1 : Int32} {x2 : Int32} {w : jW} {z : jW} (h : f_Knowing_spread_j43 k2 x1 x2 w = some z) : Ev l G (jrm d_Knowing_spread 0 0) y_Knowing_spread (none, (jRx kk), z) 0 0 0 0 43 [some (.ref 83), some (.int x1), some (.int x2)] [] (jRx kk) w := by
  rw [f_Knowing_spread_j43] at h
  refine ev_seg (o := 1) (nL := 3) (q := 45) (xs := [(.iload_n 1, 1, 1, 0, .null), (.iconst 3, 1, 0, 0, .int 3)]) (L' := [some (.ref 83), some (.int x1), some (.int x2)]) (st' := [.int 3, .int x1]) (w' := w) (g := []) (K := []) (by decide +kernel) rfl rfl rfl rfl jk0 ?_
  refine ev_icmp_ne (off := 29) (tgt := 74) (by decide +kernel) (by decide) (fun c7 => ?_) (fun c7 => ?_)
  · replace h := jneg c7 h
    refine ev_seg (o := 1) (nL := 3) (q := 2) (xs := [(.iinc 2 1, 3, 2, 0, .int 1), (.goto (-75), 3, 0, 0, .null)]) (L' := [some (.ref 83), some (.int x1), some (.int (x2 + 1))]) (st' := []) (w' := w) (g := []) (K := []) (by decide +kernel) rfl rfl rfl rfl jk0 ?_
    refine ev_mask [true, true, true] ?_
    exact hk2 _ _ _ _ h
  · replace h := jpos c7 h
    obtain ⟨hg1, h⟩ := jgd h
    refine ev_seg (o := 1) (nL := 3) (q := 56) (xs := [(.aload_n 0, 1, 0, 0, .null), (.getfield 9, 3, 1, 0, .ref 22), (.iload_n 2, 1, 2, 0, .null), (.laload, 1, 0, 0, .null), (.lconst 0, 1, 0, 0, .long 0), (.lcmp, 1, 0, 0, .null)]) (L' := [some (.ref 83), some (.int x1), some (.int x2)]) (st' := [.int (lg_cmp (w.2 84 (Int32.toNatClampNeg x2)) 0)]) (w' := w) (g := [jin x2 4]) (K := [(84, 22), (84, 22), (83, 1)]) (by decide +kernel) rfl rfl rfl hg1 (jk1 (kz_84 hk) (jk1 (kz_84 hk) (jk1 (kz_83 hk) jk0))) ?_
    refine ev_if_eq (off := 18) (tgt := 74) (by decide +kernel) (by decide) (fun c6 => ?_) (fun c6 => ?_)
    · replace h := jpos c6 h
      refine ev_seg (o := 1) (nL := 3) (q := 2) (xs := [(.iinc 2 1, 3, 2, 0, .int 1), (.goto (-75), 3, 0, 0, .null)]) (L' := [some (.ref 83), some (.int x1), some (.int (x2 + 1))]) (st' := []) (w' := w) (g := []) (K := []) (by decide +kernel) rfl rfl rfl rfl jk0 ?_
      refine ev_mask [true, true, true] ?_
      exact hk2 _ _ _ _ h
    · replace h := jneg c6 h
      refine ev_seg (o := 1) (nL := 3) (q := 67) (xs := [(.aload_n 0, 1, 0, 0, .null), (.getfield 9, 3, 1, 0, .ref 22), (.iload_n 2, 1, 2, 0, .null), (.iconst 0, 1, 0, 0, .int 0), (.aload_n 0, 1, 0, 0, .null), (.iload_n 2, 1, 2, 0, .null)]) (L' := [some (.ref 83), some (.int x1), some (.int x2)]) (st' := [.int x2, .ref 83, .int 0, .int x2, .ref 84]) (w' := w) (g := []) (K := [(84, 22), (83, 1)]) (by decide +kernel) rfl rfl rfl rfl (jk1 (kz_84 hk) (jk1 (kz_83 hk) jk0)) ?_
      obtain ⟨q2, hq2, h⟩ := jbe h
      refine ev_callV (ci := 1) (a := 83) (y2 := y_Knowing_greatest) (o := 1) (idx := 105) (d2 := d_Knowing_greatest) (n := 1) (mc2 := 0) (ms2 := 0) (As := [.int x2]) (st := [.int 0, .int x2, .ref 84]) (res2 := (some (.int q2.1), (jRx kk), q2.2)) (by decide +kernel) rfl lk_1_105 mo_Knowing_greatest mv_Knowing_greatest ⟨Nat.le_of_ble_eq_true rfl, Nat.le_of_ble_eq_true rfl⟩ rfl rfl (kz_83 hk) (by decide) rfl (Nat.le_of_ble_eq_true rfl) ⟨Nat.le_refl _, Nat.le_refl _⟩ hG (e_Knowing_greatest hG hk hq2) ?_
      obtain ⟨q3, hq3, h⟩ := jbe h
      refine ev_callS (y2 := y_Knowing_between) (o := 1) (idx := 101) (d2 := d_Knowing_between) (n := 2) (mc2 := 0) (ms2 := 0) (As := [.int 0, .int q2.1]) (st := [.int x2, .ref 84]) (res2 := (some (.long q3.1), (jRx kk), q3.2)) (by decide +kernel) rfl lk_1_101 mo_Knowing_between ms_Knowing_between ⟨Nat.le_of_ble_eq_true rfl, Nat.le_of_ble_eq_true rfl⟩ rfl rfl (Nat.le_of_ble_eq_true rfl) ⟨Nat.le_refl _, Nat.le_refl _⟩ hG (e_Knowing_between hG hk hq3) ?_
      obtain ⟨hg4, h⟩ := jgd h
      refine ev_seg (o := 1) (nL := 3) (q := 74) (xs := [(.lastore, 1, 0, 0, .null)]) (L' := [some (.ref 83), some (.int x1), some (.int x2)]) (st' := []) (w' := (q3.2.1, (jup q3.2.2 84 (Int32.toNatClampNeg x2) q3.1))) (g := [jin x2 4]) (K := [(84, 22)]) (by decide +kernel) rfl rfl rfl hg4 (jk1 (kz_84 hk) jk0) ?_
      refine jlw_c (P := fun w5 => Ev l G (jrm d_Knowing_spread 0 0) y_Knowing_spread (none, (jRx kk), z) 0 0 0 0 74 [some (.ref 83), some (.int x1), some (.int x2)] [] (jRx kk) w5) h fun w5 h => ?_
      refine ev_seg (o := 1) (nL := 3) (q := 2) (xs := [(.iinc 2 1, 3, 2, 0, .int 1), (.goto (-75), 3, 0, 0, .null)]) (L' := [some (.ref 83), some (.int x1), some (.int (x2 + 1))]) (st' := []) (w' := w5) (g := []) (K := []) (by decide +kernel) rfl rfl rfl rfl jk0 ?_
      refine ev_mask [true, true, true] ?_
      exact hk2 _ _ _ _ h
def f_Knowing_spread_h2 : Nat → Int32 → Int32 → jW → Option jW
  | 0, _, _, _ => none
  | n + 1, x1, x2, w =>
  if x2 < (Int32.ofNat 4) then
    if x1 = 1 then
      if jal [jin x2 4] = true then
      if (lg_cmp (w.2 84 (Int32.toNatClampNeg x2)) 0) = 0 then
        f_Knowing_spread_j43 (f_Knowing_spread_h2 n) x1 x2 w
      else
        Option.bind (f_Knowing_least x2 w) fun q9 =>
        Option.bind (f_Knowing_between q9.1 40 q9.2) fun q10 =>
        if jal [jin x2 4] = true then
        jlw (q10.2.1, (jup q10.2.2 84 (Int32.toNatClampNeg x2) q10.1)) fun w12 =>
        f_Knowing_spread_j43 (f_Knowing_spread_h2 n) x1 x2 w12
        else none
      else none
    else
      f_Knowing_spread_j43 (f_Knowing_spread_h2 n) x1 x2 w
  else
    some w
set_option maxRecDepth 20000 in
theorem t_Knowing_spread_h2 {l : Launch} {G : jG} (hG : jX G) {kk : Nat} (hk : 93 ≤ kk) : ∀ (n : Nat) (x1 : Int32) (x2 : Int32) (w : jW) (z : jW), f_Knowing_spread_h2 n x1 x2 w = some z → Ev l G (jrm d_Knowing_spread 0 0) y_Knowing_spread (none, (jRx kk), z) 0 0 0 0 2 [some (.ref 83), some (.int x1), some (.int x2)] [] (jRx kk) w := by
  intro n
  induction n with
  | zero => intro x1 x2 w z h; simp only [f_Knowing_spread_h2] at h; cases h
  | succ n ih =>
    intro x1 x2 w z h
    rw [f_Knowing_spread_h2] at h
    refine ev_seg (o := 1) (nL := 3) (q := 8) (xs := [(.iload_n 2, 1, 2, 0, .null), (.aload_n 0, 1, 0, 0, .null), (.getfield 9, 3, 1, 0, .ref 22), (.arraylength, 1, 22, 0, .null)]) (L' := [some (.ref 83), some (.int x1), some (.int x2)]) (st' := [.int (Int32.ofNat 4), .int x2]) (w' := w) (g := []) (K := [(84, 22), (84, 22), (83, 1)]) (by decide +kernel) rfl rfl rfl rfl (jk1 (kz_84 hk) (jk1 (kz_84 hk) (jk1 (kz_83 hk) jk0))) ?_
    refine ev_icmp_ge (off := 72) (tgt := 80) (by decide +kernel) (by decide) (fun c15 => ?_) (fun c15 => ?_)
    · replace h := jneg c15 h
      cases h
      exact ev_vret (by decide +kernel) rfl rfl rfl rfl
    · replace h := jpos c15 h
      refine ev_seg (o := 1) (nL := 3) (q := 13) (xs := [(.iload_n 1, 1, 1, 0, .null), (.iconst 1, 1, 0, 0, .int 1)]) (L' := [some (.ref 83), some (.int x1), some (.int x2)]) (st' := [.int 1, .int x1]) (w' := w) (g := []) (K := []) (by decide +kernel) rfl rfl rfl rfl jk0 ?_
      refine ev_icmp_ne (off := 30) (tgt := 43) (by decide +kernel) (by decide) (fun c14 => ?_) (fun c14 => ?_)
      · replace h := jneg c14 h
        refine ev_mask [true, true, true] ?_
        exact t_Knowing_spread_j43 hG hk ih h
      · replace h := jpos c14 h
        obtain ⟨hg8, h⟩ := jgd h
        refine ev_seg (o := 1) (nL := 3) (q := 24) (xs := [(.aload_n 0, 1, 0, 0, .null), (.getfield 9, 3, 1, 0, .ref 22), (.iload_n 2, 1, 2, 0, .null), (.laload, 1, 0, 0, .null), (.lconst 0, 1, 0, 0, .long 0), (.lcmp, 1, 0, 0, .null)]) (L' := [some (.ref 83), some (.int x1), some (.int x2)]) (st' := [.int (lg_cmp (w.2 84 (Int32.toNatClampNeg x2)) 0)]) (w' := w) (g := [jin x2 4]) (K := [(84, 22), (84, 22), (83, 1)]) (by decide +kernel) rfl rfl rfl hg8 (jk1 (kz_84 hk) (jk1 (kz_84 hk) (jk1 (kz_83 hk) jk0))) ?_
        refine ev_if_eq (off := 19) (tgt := 43) (by decide +kernel) (by decide) (fun c13 => ?_) (fun c13 => ?_)
        · replace h := jpos c13 h
          refine ev_mask [true, true, true] ?_
          exact t_Knowing_spread_j43 hG hk ih h
        · replace h := jneg c13 h
          refine ev_seg (o := 1) (nL := 3) (q := 34) (xs := [(.aload_n 0, 1, 0, 0, .null), (.getfield 9, 3, 1, 0, .ref 22), (.iload_n 2, 1, 2, 0, .null), (.aload_n 0, 1, 0, 0, .null), (.iload_n 2, 1, 2, 0, .null)]) (L' := [some (.ref 83), some (.int x1), some (.int x2)]) (st' := [.int x2, .ref 83, .int x2, .ref 84]) (w' := w) (g := []) (K := [(84, 22), (83, 1)]) (by decide +kernel) rfl rfl rfl rfl (jk1 (kz_84 hk) (jk1 (kz_83 hk) jk0)) ?_
          obtain ⟨q9, hq9, h⟩ := jbe h
          refine ev_callV (ci := 1) (a := 83) (y2 := y_Knowing_least) (o := 1) (idx := 97) (d2 := d_Knowing_least) (n := 1) (mc2 := 0) (ms2 := 0) (As := [.int x2]) (st := [.int x2, .ref 84]) (res2 := (some (.int q9.1), (jRx kk), q9.2)) (by decide +kernel) rfl lk_1_97 mo_Knowing_least mv_Knowing_least ⟨Nat.le_of_ble_eq_true rfl, Nat.le_of_ble_eq_true rfl⟩ rfl rfl (kz_83 hk) (by decide) rfl (Nat.le_of_ble_eq_true rfl) ⟨Nat.le_refl _, Nat.le_refl _⟩ hG (e_Knowing_least hG hk hq9) ?_
          refine ev_seg (o := 1) (nL := 3) (q := 39) (xs := [(.bipush 40, 2, 0, 0, .int 40)]) (L' := [some (.ref 83), some (.int x1), some (.int x2)]) (st' := [.int 40, .int q9.1, .int x2, .ref 84]) (w' := q9.2) (g := []) (K := []) (by decide +kernel) rfl rfl rfl rfl jk0 ?_
          obtain ⟨q10, hq10, h⟩ := jbe h
          refine ev_callS (y2 := y_Knowing_between) (o := 1) (idx := 101) (d2 := d_Knowing_between) (n := 2) (mc2 := 0) (ms2 := 0) (As := [.int q9.1, .int 40]) (st := [.int x2, .ref 84]) (res2 := (some (.long q10.1), (jRx kk), q10.2)) (by decide +kernel) rfl lk_1_101 mo_Knowing_between ms_Knowing_between ⟨Nat.le_of_ble_eq_true rfl, Nat.le_of_ble_eq_true rfl⟩ rfl rfl (Nat.le_of_ble_eq_true rfl) ⟨Nat.le_refl _, Nat.le_refl _⟩ hG (e_Knowing_between hG hk hq10) ?_
          obtain ⟨hg11, h⟩ := jgd h
          refine ev_seg (o := 1) (nL := 3) (q := 43) (xs := [(.lastore, 1, 0, 0, .null)]) (L' := [some (.ref 83), some (.int x1), some (.int x2)]) (st' := []) (w' := (q10.2.1, (jup q10.2.2 84 (Int32.toNatClampNeg x2) q10.1))) (g := [jin x2 4]) (K := [(84, 22)]) (by decide +kernel) rfl rfl rfl hg11 (jk1 (kz_84 hk) jk0) ?_
          refine jlw_c (P := fun w12 => Ev l G (jrm d_Knowing_spread 0 0) y_Knowing_spread (none, (jRx kk), z) 0 0 0 0 43 [some (.ref 83), some (.int x1), some (.int x2)] [] (jRx kk) w12) h fun w12 h => ?_
          refine ev_mask [true, true, true] ?_
          exact t_Knowing_spread_j43 hG hk ih h
def f_Knowing_spread (x1 : Int32) (w : jW) : Option jW :=
  f_Knowing_spread_h2 jfu x1 0 w
set_option maxRecDepth 20000 in
theorem e_Knowing_spread {l : Launch} {G : jG} (hG : jX G) {kk : Nat} (hk : 93 ≤ kk) {x1 : Int32} {w : jW} {z : jW} (h : f_Knowing_spread x1 w = some z) : Ct l G y_Knowing_spread d_Knowing_spread 0 0 [.ref 83, .int x1] (jRx kk) w (none, (jRx kk), z) := by
  rw [f_Knowing_spread] at h
  refine Ct.of (L := [some (.ref 83), some (.int x1), none]) (by decide) (Nat.le_of_ble_eq_true rfl) rfl ?_
  refine ev_seg (o := 1) (nL := 3) (q := 2) (xs := [(.iconst 0, 1, 0, 0, .int 0), (.istore_n 2, 1, 2, 0, .null)]) (L' := [some (.ref 83), some (.int x1), some (.int 0)]) (st' := []) (w' := w) (g := []) (K := []) (by decide +kernel) rfl rfl rfl rfl jk0 ?_
  refine ev_mask [true, true, true] ?_
  exact t_Knowing_spread_h2 hG hk jfu _ _ _ _ h
def f_Knowing_keep (x1 : Int32) (x2 : Int32) (x3 : Int32) (w : jW) : Option jW :=
  if x1 < 0 then
    some w
  else
    if x1 < (Int32.ofNat 4) then
      if jal [jin x1 4] = true then
      Option.bind (f_Knowing_between x2 x3 w) fun q2 =>
      if jal [jin x1 4] = true then
      jlw (q2.2.1, (jup q2.2.2 84 (Int32.toNatClampNeg x1) ((w.2 84 (Int32.toNatClampNeg x1)) &&& q2.1))) fun w4 =>
      some w4
      else none
      else none
    else
      some w
set_option maxRecDepth 20000 in
theorem e_Knowing_keep {l : Launch} {G : jG} (hG : jX G) {kk : Nat} (hk : 93 ≤ kk) {x1 : Int32} {x2 : Int32} {x3 : Int32} {w : jW} {z : jW} (h : f_Knowing_keep x1 x2 x3 w = some z) : Ct l G y_Knowing_keep d_Knowing_keep 0 0 [.ref 83, .int x1, .int x2, .int x3] (jRx kk) w (none, (jRx kk), z) := by
  rw [f_Knowing_keep] at h
  refine Ct.of (L := [some (.ref 83), some (.int x1), some (.int x2), some (.int x3)]) (by decide) (Nat.le_of_ble_eq_true rfl) rfl ?_
  refine ev_seg (o := 1) (nL := 4) (q := 1) (xs := [(.iload_n 1, 1, 1, 0, .null)]) (L' := [some (.ref 83), some (.int x1), some (.int x2), some (.int x3)]) (st' := [.int x1]) (w' := w) (g := []) (K := []) (by decide +kernel) rfl rfl rfl rfl jk0 ?_
  refine ev_if_lt (off := 26) (tgt := 27) (by decide +kernel) (by decide) (fun c6 => ?_) (fun c6 => ?_)
  · replace h := jpos c6 h
    cases h
    exact ev_vret (by decide +kernel) rfl rfl rfl rfl
  · replace h := jneg c6 h
    refine ev_seg (o := 1) (nL := 4) (q := 10) (xs := [(.iload_n 1, 1, 1, 0, .null), (.aload_n 0, 1, 0, 0, .null), (.getfield 9, 3, 1, 0, .ref 22), (.arraylength, 1, 22, 0, .null)]) (L' := [some (.ref 83), some (.int x1), some (.int x2), some (.int x3)]) (st' := [.int (Int32.ofNat 4), .int x1]) (w' := w) (g := []) (K := [(84, 22), (84, 22), (83, 1)]) (by decide +kernel) rfl rfl rfl rfl (jk1 (kz_84 hk) (jk1 (kz_84 hk) (jk1 (kz_83 hk) jk0))) ?_
    refine ev_icmp_ge (off := 17) (tgt := 27) (by decide +kernel) (by decide) (fun c5 => ?_) (fun c5 => ?_)
    · replace h := jneg c5 h
      cases h
      exact ev_vret (by decide +kernel) rfl rfl rfl rfl
    · replace h := jpos c5 h
      obtain ⟨hg1, h⟩ := jgd h
      refine ev_seg (o := 1) (nL := 4) (q := 22) (xs := [(.aload_n 0, 1, 0, 0, .null), (.getfield 9, 3, 1, 0, .ref 22), (.iload_n 1, 1, 1, 0, .null), (.dup2, 1, 0, 0, .null), (.laload, 1, 0, 0, .null), (.iload_n 2, 1, 2, 0, .null), (.iload_n 3, 1, 3, 0, .null)]) (L' := [some (.ref 83), some (.int x1), some (.int x2), some (.int x3)]) (st' := [.int x3, .int x2, .long (w.2 84 (Int32.toNatClampNeg x1)), .int x1, .ref 84]) (w' := w) (g := [jin x1 4]) (K := [(84, 22), (84, 22), (83, 1)]) (by decide +kernel) rfl rfl rfl hg1 (jk1 (kz_84 hk) (jk1 (kz_84 hk) (jk1 (kz_83 hk) jk0))) ?_
      obtain ⟨q2, hq2, h⟩ := jbe h
      refine ev_callS (y2 := y_Knowing_between) (o := 1) (idx := 101) (d2 := d_Knowing_between) (n := 2) (mc2 := 0) (ms2 := 0) (As := [.int x2, .int x3]) (st := [.long (w.2 84 (Int32.toNatClampNeg x1)), .int x1, .ref 84]) (res2 := (some (.long q2.1), (jRx kk), q2.2)) (by decide +kernel) rfl lk_1_101 mo_Knowing_between ms_Knowing_between ⟨Nat.le_of_ble_eq_true rfl, Nat.le_of_ble_eq_true rfl⟩ rfl rfl (Nat.le_of_ble_eq_true rfl) ⟨Nat.le_refl _, Nat.le_refl _⟩ hG (e_Knowing_between hG hk hq2) ?_
      obtain ⟨hg3, h⟩ := jgd h
      refine ev_seg (o := 1) (nL := 4) (q := 27) (xs := [(.land, 1, 0, 0, .null), (.lastore, 1, 0, 0, .null)]) (L' := [some (.ref 83), some (.int x1), some (.int x2), some (.int x3)]) (st' := []) (w' := (q2.2.1, (jup q2.2.2 84 (Int32.toNatClampNeg x1) ((w.2 84 (Int32.toNatClampNeg x1)) &&& q2.1)))) (g := [jin x1 4]) (K := [(84, 22)]) (by decide +kernel) rfl rfl rfl hg3 (jk1 (kz_84 hk) jk0) ?_
      refine jlw_c (P := fun w4 => Ev l G (jrm d_Knowing_keep 0 0) y_Knowing_keep (none, (jRx kk), z) 0 0 0 0 27 [some (.ref 83), some (.int x1), some (.int x2), some (.int x3)] [] (jRx kk) w4) h fun w4 h => ?_
      cases h
      exact ev_vret (by decide +kernel) rfl rfl rfl rfl
def f_Knowing_visitedOn_h48 (k3 : Int32 → Int32 → Int32 → jW → Option jW) : Nat → Int32 → Int32 → Int32 → Int32 → jW → Option jW
  | 0, _, _, _, _, _ => none
  | n + 1, x2, x3, x4, x5, w =>
  if x5 < (Int32.ofNat 4) then
    Option.bind (f_Rows_at 26 x4 x5 w) fun q4 =>
    Option.bind (f_Rows_at 26 x4 4 q4.2) fun q5 =>
    Option.bind (f_Knowing_keep x5 q4.1 (q4.1 + q5.1) q5.2) fun q6 =>
    (f_Knowing_visitedOn_h48 k3 n) x2 x3 x4 (x5 + 1) q6
  else
    k3 x2 x3 (x4 + 1) w
set_option maxRecDepth 20000 in
theorem t_Knowing_visitedOn_h48 {l : Launch} {G : jG} (hG : jX G) {kk : Nat} (hk : 93 ≤ kk) {k3 : Int32 → Int32 → Int32 → jW → Option jW} (hk3 : ∀ (x2 : Int32) (x3 : Int32) (x4 : Int32) (w : jW) (z : jW), k3 x2 x3 x4 w = some z → Ev l G (jrm d_Knowing_visitedOn 0 0) y_Knowing_visitedOn (none, (jRx kk), z) 0 0 0 0 3 [some (.ref 83), some (.ref 3), some (.int x2), some (.int x3), some (.int x4), none, none] [] (jRx kk) w) : ∀ (n : Nat) (x2 : Int32) (x3 : Int32) (x4 : Int32) (x5 : Int32) (w : jW) (z : jW), f_Knowing_visitedOn_h48 k3 n x2 x3 x4 x5 w = some z → Ev l G (jrm d_Knowing_visitedOn 0 0) y_Knowing_visitedOn (none, (jRx kk), z) 0 0 0 0 48 [some (.ref 83), some (.ref 3), some (.int x2), some (.int x3), some (.int x4), some (.int x5), none] [] (jRx kk) w := by
  intro n
  induction n with
  | zero => intro x2 x3 x4 x5 w z h; simp only [f_Knowing_visitedOn_h48] at h; cases h
  | succ n ih =>
    intro x2 x3 x4 x5 w z h
    rw [f_Knowing_visitedOn_h48] at h
    refine ev_seg (o := 1) (nL := 7) (q := 55) (xs := [(.iload 5, 2, 5, 0, .null), (.aload_n 0, 1, 0, 0, .null), (.getfield 9, 3, 1, 0, .ref 22), (.arraylength, 1, 22, 0, .null)]) (L' := [some (.ref 83), some (.ref 3), some (.int x2), some (.int x3), some (.int x4), some (.int x5), none]) (st' := [.int (Int32.ofNat 4), .int x5]) (w' := w) (g := []) (K := [(84, 22), (84, 22), (83, 1)]) (by decide +kernel) rfl rfl rfl rfl (jk1 (kz_84 hk) (jk1 (kz_84 hk) (jk1 (kz_83 hk) jk0))) ?_
    refine ev_icmp_ge (off := 43) (tgt := 98) (by decide +kernel) (by decide) (fun c7 => ?_) (fun c7 => ?_)
    · replace h := jneg c7 h
      refine ev_seg (o := 1) (nL := 7) (q := 3) (xs := [(.iinc 4 1, 3, 4, 0, .int 1), (.goto (-98), 3, 0, 0, .null)]) (L' := [some (.ref 83), some (.ref 3), some (.int x2), some (.int x3), some (.int (x4 + 1)), some (.int x5), none]) (st' := []) (w' := w) (g := []) (K := []) (by decide +kernel) rfl rfl rfl rfl jk0 ?_
      refine ev_mask [true, true, true, true, true, false, false] ?_
      exact hk3 _ _ _ _ _ h
    · replace h := jpos c7 h
      refine ev_seg (o := 1) (nL := 7) (q := 66) (xs := [(.aload_n 1, 1, 1, 0, .null), (.getfield 73, 3, 6, 13, .ref 3), (.iload 4, 2, 4, 0, .null), (.iload 5, 2, 5, 0, .null)]) (L' := [some (.ref 83), some (.ref 3), some (.int x2), some (.int x3), some (.int x4), some (.int x5), none]) (st' := [.int x5, .int x4, .ref 26]) (w' := w) (g := []) (K := [(26, 3), (3, 6)]) (by decide +kernel) rfl rfl rfl rfl (jk1 (kz_26 hk) (jk1 (kz_3 hk) jk0)) ?_
      obtain ⟨q4, hq4, h⟩ := jbe h
      refine ev_callV (ci := 3) (a := 26) (y2 := y_Rows_at) (o := 1) (idx := 31) (d2 := d_Rows_at) (n := 2) (mc2 := 0) (ms2 := 0) (As := [.int x4, .int x5]) (st := []) (res2 := (some (.int q4.1), (jRx kk), q4.2)) (by decide +kernel) rfl lk_1_31 mo_Rows_at mv_Rows_at ⟨Nat.le_of_ble_eq_true rfl, Nat.le_of_ble_eq_true rfl⟩ rfl rfl (kz_26 hk) (by decide) rfl (Nat.le_of_ble_eq_true rfl) ⟨Nat.le_refl _, Nat.le_refl _⟩ hG (e_Rows_at hG hk (kz_26 hk) hq4) ?_
      refine ev_seg (o := 1) (nL := 7) (q := 85) (xs := [(.istore 6, 2, 6, 0, .null), (.aload_n 0, 1, 0, 0, .null), (.iload 5, 2, 5, 0, .null), (.iload 6, 2, 6, 0, .null), (.iload 6, 2, 6, 0, .null), (.aload_n 1, 1, 1, 0, .null), (.getfield 73, 3, 6, 13, .ref 3), (.iload 4, 2, 4, 0, .null), (.iconst 4, 1, 0, 0, .int 4)]) (L' := [some (.ref 83), some (.ref 3), some (.int x2), some (.int x3), some (.int x4), some (.int x5), some (.int q4.1)]) (st' := [.int 4, .int x4, .ref 26, .int q4.1, .int q4.1, .int x5, .ref 83]) (w' := q4.2) (g := []) (K := [(26, 3), (3, 6)]) (by decide +kernel) rfl rfl rfl rfl (jk1 (kz_26 hk) (jk1 (kz_3 hk) jk0)) ?_
      obtain ⟨q5, hq5, h⟩ := jbe h
      refine ev_callV (ci := 3) (a := 26) (y2 := y_Rows_at) (o := 1) (idx := 31) (d2 := d_Rows_at) (n := 2) (mc2 := 0) (ms2 := 0) (As := [.int x4, .int 4]) (st := [.int q4.1, .int q4.1, .int x5, .ref 83]) (res2 := (some (.int q5.1), (jRx kk), q5.2)) (by decide +kernel) rfl lk_1_31 mo_Rows_at mv_Rows_at ⟨Nat.le_of_ble_eq_true rfl, Nat.le_of_ble_eq_true rfl⟩ rfl rfl (kz_26 hk) (by decide) rfl (Nat.le_of_ble_eq_true rfl) ⟨Nat.le_refl _, Nat.le_refl _⟩ hG (e_Rows_at hG hk (kz_26 hk) hq5) ?_
      refine ev_seg (o := 1) (nL := 7) (q := 89) (xs := [(.iadd, 1, 0, 0, .null)]) (L' := [some (.ref 83), some (.ref 3), some (.int x2), some (.int x3), some (.int x4), some (.int x5), some (.int q4.1)]) (st' := [.int (q4.1 + q5.1), .int q4.1, .int x5, .ref 83]) (w' := q5.2) (g := []) (K := []) (by decide +kernel) rfl rfl rfl rfl jk0 ?_
      obtain ⟨q6, hq6, h⟩ := jbe h
      refine ev_callV (ci := 1) (a := 83) (y2 := y_Knowing_keep) (o := 1) (idx := 118) (d2 := d_Knowing_keep) (n := 3) (mc2 := 0) (ms2 := 0) (As := [.int x5, .int q4.1, .int (q4.1 + q5.1)]) (st := []) (res2 := (none, (jRx kk), q6)) (by decide +kernel) rfl lk_1_118 mo_Knowing_keep mv_Knowing_keep ⟨Nat.le_of_ble_eq_true rfl, Nat.le_of_ble_eq_true rfl⟩ rfl rfl (kz_83 hk) (by decide) rfl (Nat.le_of_ble_eq_true rfl) ⟨Nat.le_refl _, Nat.le_refl _⟩ hG (e_Knowing_keep hG hk hq6) ?_
      refine ev_seg (o := 1) (nL := 7) (q := 48) (xs := [(.iinc 5 1, 3, 5, 0, .int 1), (.goto (-47), 3, 0, 0, .null)]) (L' := [some (.ref 83), some (.ref 3), some (.int x2), some (.int x3), some (.int x4), some (.int (x5 + 1)), some (.int q4.1)]) (st' := []) (w' := q6) (g := []) (K := []) (by decide +kernel) rfl rfl rfl rfl jk0 ?_
      refine ev_mask [true, true, true, true, true, true, false] ?_
      exact ih _ _ _ _ _ _ h
def f_Knowing_visitedOn_h3 : Nat → Int32 → Int32 → Int32 → jW → Option jW
  | 0, _, _, _, _ => none
  | n + 1, x2, x3, x4, w =>
  Option.bind (f_Rows_count 26 w) fun q1 =>
  if x4 < q1.1 then
    Option.bind (f_Rows_at 26 x4 8 q1.2) fun q2 =>
    if q2.1 = x2 then
      Option.bind (f_Rows_at 26 x4 6 q2.2) fun q3 =>
      if q3.1 = x3 then
        f_Knowing_visitedOn_h48 (f_Knowing_visitedOn_h3 n) jfu x2 x3 x4 0 q3.2
      else
        (f_Knowing_visitedOn_h3 n) x2 x3 (x4 + 1) q3.2
    else
      (f_Knowing_visitedOn_h3 n) x2 x3 (x4 + 1) q2.2
  else
    some q1.2
set_option maxRecDepth 20000 in
theorem t_Knowing_visitedOn_h3 {l : Launch} {G : jG} (hG : jX G) {kk : Nat} (hk : 93 ≤ kk) : ∀ (n : Nat) (x2 : Int32) (x3 : Int32) (x4 : Int32) (w : jW) (z : jW), f_Knowing_visitedOn_h3 n x2 x3 x4 w = some z → Ev l G (jrm d_Knowing_visitedOn 0 0) y_Knowing_visitedOn (none, (jRx kk), z) 0 0 0 0 3 [some (.ref 83), some (.ref 3), some (.int x2), some (.int x3), some (.int x4), none, none] [] (jRx kk) w := by
  intro n
  induction n with
  | zero => intro x2 x3 x4 w z h; simp only [f_Knowing_visitedOn_h3] at h; cases h
  | succ n ih =>
    intro x2 x3 x4 w z h
    rw [f_Knowing_visitedOn_h3] at h
    refine ev_seg (o := 1) (nL := 7) (q := 9) (xs := [(.iload 4, 2, 4, 0, .null), (.aload_n 1, 1, 1, 0, .null), (.getfield 73, 3, 6, 13, .ref 3)]) (L' := [some (.ref 83), some (.ref 3), some (.int x2), some (.int x3), some (.int x4), none, none]) (st' := [.ref 26, .int x4]) (w' := w) (g := []) (K := [(26, 3), (3, 6)]) (by decide +kernel) rfl rfl rfl rfl (jk1 (kz_26 hk) (jk1 (kz_3 hk) jk0)) ?_
    obtain ⟨q1, hq1, h⟩ := jbe h
    refine ev_callV (ci := 3) (a := 26) (y2 := y_Rows_count) (o := 1) (idx := 25) (d2 := d_Rows_count) (n := 0) (mc2 := 0) (ms2 := 0) (As := []) (st := [.int x4]) (res2 := (some (.int q1.1), (jRx kk), q1.2)) (by decide +kernel) rfl lk_1_25 mo_Rows_count mv_Rows_count ⟨Nat.le_of_ble_eq_true rfl, Nat.le_of_ble_eq_true rfl⟩ rfl rfl (kz_26 hk) (by decide) rfl (Nat.le_of_ble_eq_true rfl) ⟨Nat.le_refl _, Nat.le_refl _⟩ hG (e_Rows_count hG hk (kz_26 hk) hq1) ?_
    refine ev_icmp_ge (off := 92) (tgt := 104) (by decide +kernel) (by decide) (fun c10 => ?_) (fun c10 => ?_)
    · replace h := jneg c10 h
      cases h
      exact ev_vret (by decide +kernel) rfl rfl rfl rfl
    · replace h := jpos c10 h
      refine ev_seg (o := 1) (nL := 7) (q := 23) (xs := [(.aload_n 1, 1, 1, 0, .null), (.getfield 73, 3, 6, 13, .ref 3), (.iload 4, 2, 4, 0, .null), (.bipush 8, 2, 0, 0, .int 8)]) (L' := [some (.ref 83), some (.ref 3), some (.int x2), some (.int x3), some (.int x4), none, none]) (st' := [.int 8, .int x4, .ref 26]) (w' := q1.2) (g := []) (K := [(26, 3), (3, 6)]) (by decide +kernel) rfl rfl rfl rfl (jk1 (kz_26 hk) (jk1 (kz_3 hk) jk0)) ?_
      obtain ⟨q2, hq2, h⟩ := jbe h
      refine ev_callV (ci := 3) (a := 26) (y2 := y_Rows_at) (o := 1) (idx := 31) (d2 := d_Rows_at) (n := 2) (mc2 := 0) (ms2 := 0) (As := [.int x4, .int 8]) (st := []) (res2 := (some (.int q2.1), (jRx kk), q2.2)) (by decide +kernel) rfl lk_1_31 mo_Rows_at mv_Rows_at ⟨Nat.le_of_ble_eq_true rfl, Nat.le_of_ble_eq_true rfl⟩ rfl rfl (kz_26 hk) (by decide) rfl (Nat.le_of_ble_eq_true rfl) ⟨Nat.le_refl _, Nat.le_refl _⟩ hG (e_Rows_at hG hk (kz_26 hk) hq2) ?_
      refine ev_seg (o := 1) (nL := 7) (q := 27) (xs := [(.iload_n 2, 1, 2, 0, .null)]) (L' := [some (.ref 83), some (.ref 3), some (.int x2), some (.int x3), some (.int x4), none, none]) (st' := [.int x2, .int q2.1]) (w' := q2.2) (g := []) (K := []) (by decide +kernel) rfl rfl rfl rfl jk0 ?_
      refine ev_icmp_ne (off := 71) (tgt := 98) (by decide +kernel) (by decide) (fun c9 => ?_) (fun c9 => ?_)
      · replace h := jneg c9 h
        refine ev_seg (o := 1) (nL := 7) (q := 3) (xs := [(.iinc 4 1, 3, 4, 0, .int 1), (.goto (-98), 3, 0, 0, .null)]) (L' := [some (.ref 83), some (.ref 3), some (.int x2), some (.int x3), some (.int (x4 + 1)), none, none]) (st' := []) (w' := q2.2) (g := []) (K := []) (by decide +kernel) rfl rfl rfl rfl jk0 ?_
        refine ev_mask [true, true, true, true, true, false, false] ?_
        exact ih _ _ _ _ _ h
      · replace h := jpos c9 h
        refine ev_seg (o := 1) (nL := 7) (q := 38) (xs := [(.aload_n 1, 1, 1, 0, .null), (.getfield 73, 3, 6, 13, .ref 3), (.iload 4, 2, 4, 0, .null), (.bipush 6, 2, 0, 0, .int 6)]) (L' := [some (.ref 83), some (.ref 3), some (.int x2), some (.int x3), some (.int x4), none, none]) (st' := [.int 6, .int x4, .ref 26]) (w' := q2.2) (g := []) (K := [(26, 3), (3, 6)]) (by decide +kernel) rfl rfl rfl rfl (jk1 (kz_26 hk) (jk1 (kz_3 hk) jk0)) ?_
        obtain ⟨q3, hq3, h⟩ := jbe h
        refine ev_callV (ci := 3) (a := 26) (y2 := y_Rows_at) (o := 1) (idx := 31) (d2 := d_Rows_at) (n := 2) (mc2 := 0) (ms2 := 0) (As := [.int x4, .int 6]) (st := []) (res2 := (some (.int q3.1), (jRx kk), q3.2)) (by decide +kernel) rfl lk_1_31 mo_Rows_at mv_Rows_at ⟨Nat.le_of_ble_eq_true rfl, Nat.le_of_ble_eq_true rfl⟩ rfl rfl (kz_26 hk) (by decide) rfl (Nat.le_of_ble_eq_true rfl) ⟨Nat.le_refl _, Nat.le_refl _⟩ hG (e_Rows_at hG hk (kz_26 hk) hq3) ?_
        refine ev_seg (o := 1) (nL := 7) (q := 42) (xs := [(.iload_n 3, 1, 3, 0, .null)]) (L' := [some (.ref 83), some (.ref 3), some (.int x2), some (.int x3), some (.int x4), none, none]) (st' := [.int x3, .int q3.1]) (w' := q3.2) (g := []) (K := []) (by decide +kernel) rfl rfl rfl rfl jk0 ?_
        refine ev_icmp_ne (off := 56) (tgt := 98) (by decide +kernel) (by decide) (fun c8 => ?_) (fun c8 => ?_)
        · replace h := jneg c8 h
          refine ev_seg (o := 1) (nL := 7) (q := 3) (xs := [(.iinc 4 1, 3, 4, 0, .int 1), (.goto (-98), 3, 0, 0, .null)]) (L' := [some (.ref 83), some (.ref 3), some (.int x2), some (.int x3), some (.int (x4 + 1)), none, none]) (st' := []) (w' := q3.2) (g := []) (K := []) (by decide +kernel) rfl rfl rfl rfl jk0 ?_
          refine ev_mask [true, true, true, true, true, false, false] ?_
          exact ih _ _ _ _ _ h
        · replace h := jpos c8 h
          refine ev_seg (o := 1) (nL := 7) (q := 48) (xs := [(.iconst 0, 1, 0, 0, .int 0), (.istore 5, 2, 5, 0, .null)]) (L' := [some (.ref 83), some (.ref 3), some (.int x2), some (.int x3), some (.int x4), some (.int 0), none]) (st' := []) (w' := q3.2) (g := []) (K := []) (by decide +kernel) rfl rfl rfl rfl jk0 ?_
          refine ev_mask [true, true, true, true, true, true, false] ?_
          exact t_Knowing_visitedOn_h48 hG hk ih jfu _ _ _ _ _ _ h
def f_Knowing_visitedOn (x2 : Int32) (x3 : Int32) (w : jW) : Option jW :=
  f_Knowing_visitedOn_h3 jfu x2 x3 0 w
set_option maxRecDepth 20000 in
theorem e_Knowing_visitedOn {l : Launch} {G : jG} (hG : jX G) {kk : Nat} (hk : 93 ≤ kk) {x2 : Int32} {x3 : Int32} {w : jW} {z : jW} (h : f_Knowing_visitedOn x2 x3 w = some z) : Ct l G y_Knowing_visitedOn d_Knowing_visitedOn 0 0 [.ref 83, .ref 3, .int x2, .int x3] (jRx kk) w (none, (jRx kk), z) := by
  rw [f_Knowing_visitedOn] at h
  refine Ct.of (L := [some (.ref 83), some (.ref 3), some (.int x2), some (.int x3), none, none, none]) (by decide) (Nat.le_of_ble_eq_true rfl) rfl ?_
  refine ev_seg (o := 1) (nL := 7) (q := 3) (xs := [(.iconst 0, 1, 0, 0, .int 0), (.istore 4, 2, 4, 0, .null)]) (L' := [some (.ref 83), some (.ref 3), some (.int x2), some (.int x3), some (.int 0), none, none]) (st' := []) (w' := w) (g := []) (K := []) (by decide +kernel) rfl rfl rfl rfl jk0 ?_
  refine ev_mask [true, true, true, true, true, false, false] ?_
  exact t_Knowing_visitedOn_h3 hG hk jfu _ _ _ _ _ h
def f_Knowing_picturedOn_h46 (k3 : Int32 → Int32 → Int32 → jW → Option jW) : Nat → Int32 → Int32 → Int32 → Int32 → jW → Option jW
  | 0, _, _, _, _, _ => none
  | n + 1, x2, x3, x4, x5, w =>
  if x5 < (Int32.ofNat 4) then
    Option.bind (f_Rows_at 4 x5 0 w) fun q4 =>
    if q4.1 < (q4.2.1 3 3) then
      (f_Knowing_picturedOn_h46 k3 n) x2 x3 x4 (x5 + 1) q4.2
    else
      Option.bind (f_Rows_at 28 x4 2 q4.2) fun q5 =>
      Option.bind (f_Knowing_keep x5 0 q5.1 q5.2) fun q6 =>
      (f_Knowing_picturedOn_h46 k3 n) x2 x3 x4 (x5 + 1) q6
  else
    k3 x2 x3 (x4 + 1) w
set_option maxRecDepth 20000 in
theorem t_Knowing_picturedOn_h46 {l : Launch} {G : jG} (hG : jX G) {kk : Nat} (hk : 93 ≤ kk) {k3 : Int32 → Int32 → Int32 → jW → Option jW} (hk3 : ∀ (x2 : Int32) (x3 : Int32) (x4 : Int32) (w : jW) (z : jW), k3 x2 x3 x4 w = some z → Ev l G (jrm d_Knowing_picturedOn 0 0) y_Knowing_picturedOn (none, (jRx kk), z) 0 0 0 0 3 [some (.ref 83), some (.ref 3), some (.int x2), some (.int x3), some (.int x4), none] [] (jRx kk) w) : ∀ (n : Nat) (x2 : Int32) (x3 : Int32) (x4 : Int32) (x5 : Int32) (w : jW) (z : jW), f_Knowing_picturedOn_h46 k3 n x2 x3 x4 x5 w = some z → Ev l G (jrm d_Knowing_picturedOn 0 0) y_Knowing_picturedOn (none, (jRx kk), z) 0 0 0 0 46 [some (.ref 83), some (.ref 3), some (.int x2), some (.int x3), some (.int x4), some (.int x5)] [] (jRx kk) w := by
  intro n
  induction n with
  | zero => intro x2 x3 x4 x5 w z h; simp only [f_Knowing_picturedOn_h46] at h; cases h
  | succ n ih =>
    intro x2 x3 x4 x5 w z h
    rw [f_Knowing_picturedOn_h46] at h
    refine ev_seg (o := 1) (nL := 6) (q := 53) (xs := [(.iload 5, 2, 5, 0, .null), (.aload_n 0, 1, 0, 0, .null), (.getfield 9, 3, 1, 0, .ref 22), (.arraylength, 1, 22, 0, .null)]) (L' := [some (.ref 83), some (.ref 3), some (.int x2), some (.int x3), some (.int x4), some (.int x5)]) (st' := [.int (Int32.ofNat 4), .int x5]) (w' := w) (g := []) (K := [(84, 22), (84, 22), (83, 1)]) (by decide +kernel) rfl rfl rfl rfl (jk1 (kz_84 hk) (jk1 (kz_84 hk) (jk1 (kz_83 hk) jk0))) ?_
    refine ev_icmp_ge (off := 43) (tgt := 96) (by decide +kernel) (by decide) (fun c8 => ?_) (fun c8 => ?_)
    · replace h := jneg c8 h
      refine ev_seg (o := 1) (nL := 6) (q := 3) (xs := [(.iinc 4 1, 3, 4, 0, .int 1), (.goto (-96), 3, 0, 0, .null)]) (L' := [some (.ref 83), some (.ref 3), some (.int x2), some (.int x3), some (.int (x4 + 1)), some (.int x5)]) (st' := []) (w' := w) (g := []) (K := []) (by decide +kernel) rfl rfl rfl rfl jk0 ?_
      refine ev_mask [true, true, true, true, true, false] ?_
      exact hk3 _ _ _ _ _ h
    · replace h := jpos c8 h
      refine ev_seg (o := 1) (nL := 6) (q := 63) (xs := [(.aload_n 1, 1, 1, 0, .null), (.getfield 91, 3, 6, 5, .ref 3), (.iload 5, 2, 5, 0, .null), (.iconst 0, 1, 0, 0, .int 0)]) (L' := [some (.ref 83), some (.ref 3), some (.int x2), some (.int x3), some (.int x4), some (.int x5)]) (st' := [.int 0, .int x5, .ref 4]) (w' := w) (g := []) (K := [(4, 3), (3, 6)]) (by decide +kernel) rfl rfl rfl rfl (jk1 (kz_4 hk) (jk1 (kz_3 hk) jk0)) ?_
      obtain ⟨q4, hq4, h⟩ := jbe h
      refine ev_callV (ci := 3) (a := 4) (y2 := y_Rows_at) (o := 1) (idx := 31) (d2 := d_Rows_at) (n := 2) (mc2 := 0) (ms2 := 0) (As := [.int x5, .int 0]) (st := []) (res2 := (some (.int q4.1), (jRx kk), q4.2)) (by decide +kernel) rfl lk_1_31 mo_Rows_at mv_Rows_at ⟨Nat.le_of_ble_eq_true rfl, Nat.le_of_ble_eq_true rfl⟩ rfl rfl (kz_4 hk) (by decide) rfl (Nat.le_of_ble_eq_true rfl) ⟨Nat.le_refl _, Nat.le_refl _⟩ hG (e_Rows_at hG hk (kz_4 hk) hq4) ?_
      refine ev_seg (o := 1) (nL := 6) (q := 70) (xs := [(.aload_n 1, 1, 1, 0, .null), (.getfield 125, 3, 6, 3, .int 0)]) (L' := [some (.ref 83), some (.ref 3), some (.int x2), some (.int x3), some (.int x4), some (.int x5)]) (st' := [.int (q4.2.1 3 3), .int q4.1]) (w' := q4.2) (g := []) (K := [(3, 6)]) (by decide +kernel) rfl rfl rfl rfl (jk1 (kz_3 hk) jk0) ?_
      refine ev_icmp_lt (off := 20) (tgt := 90) (by decide +kernel) (by decide) (fun c7 => ?_) (fun c7 => ?_)
      · replace h := jpos c7 h
        refine ev_seg (o := 1) (nL := 6) (q := 46) (xs := [(.iinc 5 1, 3, 5, 0, .int 1), (.goto (-47), 3, 0, 0, .null)]) (L' := [some (.ref 83), some (.ref 3), some (.int x2), some (.int x3), some (.int x4), some (.int (x5 + 1))]) (st' := []) (w' := q4.2) (g := []) (K := []) (by decide +kernel) rfl rfl rfl rfl jk0 ?_
        refine ev_mask [true, true, true, true, true, true] ?_
        exact ih _ _ _ _ _ _ h
      · replace h := jneg c7 h
        refine ev_seg (o := 1) (nL := 6) (q := 84) (xs := [(.aload_n 0, 1, 0, 0, .null), (.iload 5, 2, 5, 0, .null), (.iconst 0, 1, 0, 0, .int 0), (.aload_n 1, 1, 1, 0, .null), (.getfield 122, 3, 6, 14, .ref 3), (.iload 4, 2, 4, 0, .null), (.iconst 2, 1, 0, 0, .int 2)]) (L' := [some (.ref 83), some (.ref 3), some (.int x2), some (.int x3), some (.int x4), some (.int x5)]) (st' := [.int 2, .int x4, .ref 28, .int 0, .int x5, .ref 83]) (w' := q4.2) (g := []) (K := [(28, 3), (3, 6)]) (by decide +kernel) rfl rfl rfl rfl (jk1 (kz_28 hk) (jk1 (kz_3 hk) jk0)) ?_
        obtain ⟨q5, hq5, h⟩ := jbe h
        refine ev_callV (ci := 3) (a := 28) (y2 := y_Rows_at) (o := 1) (idx := 31) (d2 := d_Rows_at) (n := 2) (mc2 := 0) (ms2 := 0) (As := [.int x4, .int 2]) (st := [.int 0, .int x5, .ref 83]) (res2 := (some (.int q5.1), (jRx kk), q5.2)) (by decide +kernel) rfl lk_1_31 mo_Rows_at mv_Rows_at ⟨Nat.le_of_ble_eq_true rfl, Nat.le_of_ble_eq_true rfl⟩ rfl rfl (kz_28 hk) (by decide) rfl (Nat.le_of_ble_eq_true rfl) ⟨Nat.le_refl _, Nat.le_refl _⟩ hG (e_Rows_at hG hk (kz_28 hk) hq5) ?_
        obtain ⟨q6, hq6, h⟩ := jbe h
        refine ev_callV (ci := 1) (a := 83) (y2 := y_Knowing_keep) (o := 1) (idx := 118) (d2 := d_Knowing_keep) (n := 3) (mc2 := 0) (ms2 := 0) (As := [.int x5, .int 0, .int q5.1]) (st := []) (res2 := (none, (jRx kk), q6)) (by decide +kernel) rfl lk_1_118 mo_Knowing_keep mv_Knowing_keep ⟨Nat.le_of_ble_eq_true rfl, Nat.le_of_ble_eq_true rfl⟩ rfl rfl (kz_83 hk) (by decide) rfl (Nat.le_of_ble_eq_true rfl) ⟨Nat.le_refl _, Nat.le_refl _⟩ hG (e_Knowing_keep hG hk hq6) ?_
        refine ev_seg (o := 1) (nL := 6) (q := 46) (xs := [(.iinc 5 1, 3, 5, 0, .int 1), (.goto (-47), 3, 0, 0, .null)]) (L' := [some (.ref 83), some (.ref 3), some (.int x2), some (.int x3), some (.int x4), some (.int (x5 + 1))]) (st' := []) (w' := q6) (g := []) (K := []) (by decide +kernel) rfl rfl rfl rfl jk0 ?_
        refine ev_mask [true, true, true, true, true, true] ?_
        exact ih _ _ _ _ _ _ h
def f_Knowing_picturedOn_h3 : Nat → Int32 → Int32 → Int32 → jW → Option jW
  | 0, _, _, _, _ => none
  | n + 1, x2, x3, x4, w =>
  Option.bind (f_Rows_count 28 w) fun q1 =>
  if x4 < q1.1 then
    Option.bind (f_Rows_at 28 x4 0 q1.2) fun q2 =>
    if q2.1 = x2 then
      Option.bind (f_Rows_at 28 x4 1 q2.2) fun q3 =>
      if q3.1 = x3 then
        f_Knowing_picturedOn_h46 (f_Knowing_picturedOn_h3 n) jfu x2 x3 x4 0 q3.2
      else
        (f_Knowing_picturedOn_h3 n) x2 x3 (x4 + 1) q3.2
    else
      (f_Knowing_picturedOn_h3 n) x2 x3 (x4 + 1) q2.2
  else
    some q1.2
set_option maxRecDepth 20000 in
theorem t_Knowing_picturedOn_h3 {l : Launch} {G : jG} (hG : jX G) {kk : Nat} (hk : 93 ≤ kk) : ∀ (n : Nat) (x2 : Int32) (x3 : Int32) (x4 : Int32) (w : jW) (z : jW), f_Knowing_picturedOn_h3 n x2 x3 x4 w = some z → Ev l G (jrm d_Knowing_picturedOn 0 0) y_Knowing_picturedOn (none, (jRx kk), z) 0 0 0 0 3 [some (.ref 83), some (.ref 3), some (.int x2), some (.int x3), some (.int x4), none] [] (jRx kk) w := by
  intro n
  induction n with
  | zero => intro x2 x3 x4 w z h; simp only [f_Knowing_picturedOn_h3] at h; cases h
  | succ n ih =>
    intro x2 x3 x4 w z h
    rw [f_Knowing_picturedOn_h3] at h
    refine ev_seg (o := 1) (nL := 6) (q := 9) (xs := [(.iload 4, 2, 4, 0, .null), (.aload_n 1, 1, 1, 0, .null), (.getfield 122, 3, 6, 14, .ref 3)]) (L' := [some (.ref 83), some (.ref 3), some (.int x2), some (.int x3), some (.int x4), none]) (st' := [.ref 28, .int x4]) (w' := w) (g := []) (K := [(28, 3), (3, 6)]) (by decide +kernel) rfl rfl rfl rfl (jk1 (kz_28 hk) (jk1 (kz_3 hk) jk0)) ?_
    obtain ⟨q1, hq1, h⟩ := jbe h
    refine ev_callV (ci := 3) (a := 28) (y2 := y_Rows_count) (o := 1) (idx := 25) (d2 := d_Rows_count) (n := 0) (mc2 := 0) (ms2 := 0) (As := []) (st := [.int x4]) (res2 := (some (.int q1.1), (jRx kk), q1.2)) (by decide +kernel) rfl lk_1_25 mo_Rows_count mv_Rows_count ⟨Nat.le_of_ble_eq_true rfl, Nat.le_of_ble_eq_true rfl⟩ rfl rfl (kz_28 hk) (by decide) rfl (Nat.le_of_ble_eq_true rfl) ⟨Nat.le_refl _, Nat.le_refl _⟩ hG (e_Rows_count hG hk (kz_28 hk) hq1) ?_
    refine ev_icmp_ge (off := 90) (tgt := 102) (by decide +kernel) (by decide) (fun c11 => ?_) (fun c11 => ?_)
    · replace h := jneg c11 h
      cases h
      exact ev_vret (by decide +kernel) rfl rfl rfl rfl
    · replace h := jpos c11 h
      refine ev_seg (o := 1) (nL := 6) (q := 22) (xs := [(.aload_n 1, 1, 1, 0, .null), (.getfield 122, 3, 6, 14, .ref 3), (.iload 4, 2, 4, 0, .null), (.iconst 0, 1, 0, 0, .int 0)]) (L' := [some (.ref 83), some (.ref 3), some (.int x2), some (.int x3), some (.int x4), none]) (st' := [.int 0, .int x4, .ref 28]) (w' := q1.2) (g := []) (K := [(28, 3), (3, 6)]) (by decide +kernel) rfl rfl rfl rfl (jk1 (kz_28 hk) (jk1 (kz_3 hk) jk0)) ?_
      obtain ⟨q2, hq2, h⟩ := jbe h
      refine ev_callV (ci := 3) (a := 28) (y2 := y_Rows_at) (o := 1) (idx := 31) (d2 := d_Rows_at) (n := 2) (mc2 := 0) (ms2 := 0) (As := [.int x4, .int 0]) (st := []) (res2 := (some (.int q2.1), (jRx kk), q2.2)) (by decide +kernel) rfl lk_1_31 mo_Rows_at mv_Rows_at ⟨Nat.le_of_ble_eq_true rfl, Nat.le_of_ble_eq_true rfl⟩ rfl rfl (kz_28 hk) (by decide) rfl (Nat.le_of_ble_eq_true rfl) ⟨Nat.le_refl _, Nat.le_refl _⟩ hG (e_Rows_at hG hk (kz_28 hk) hq2) ?_
      refine ev_seg (o := 1) (nL := 6) (q := 26) (xs := [(.iload_n 2, 1, 2, 0, .null)]) (L' := [some (.ref 83), some (.ref 3), some (.int x2), some (.int x3), some (.int x4), none]) (st' := [.int x2, .int q2.1]) (w' := q2.2) (g := []) (K := []) (by decide +kernel) rfl rfl rfl rfl jk0 ?_
      refine ev_icmp_ne (off := 70) (tgt := 96) (by decide +kernel) (by decide) (fun c10 => ?_) (fun c10 => ?_)
      · replace h := jneg c10 h
        refine ev_seg (o := 1) (nL := 6) (q := 3) (xs := [(.iinc 4 1, 3, 4, 0, .int 1), (.goto (-96), 3, 0, 0, .null)]) (L' := [some (.ref 83), some (.ref 3), some (.int x2), some (.int x3), some (.int (x4 + 1)), none]) (st' := []) (w' := q2.2) (g := []) (K := []) (by decide +kernel) rfl rfl rfl rfl jk0 ?_
        refine ev_mask [true, true, true, true, true, false] ?_
        exact ih _ _ _ _ _ h
      · replace h := jpos c10 h
        refine ev_seg (o := 1) (nL := 6) (q := 36) (xs := [(.aload_n 1, 1, 1, 0, .null), (.getfield 122, 3, 6, 14, .ref 3), (.iload 4, 2, 4, 0, .null), (.iconst 1, 1, 0, 0, .int 1)]) (L' := [some (.ref 83), some (.ref 3), some (.int x2), some (.int x3), some (.int x4), none]) (st' := [.int 1, .int x4, .ref 28]) (w' := q2.2) (g := []) (K := [(28, 3), (3, 6)]) (by decide +kernel) rfl rfl rfl rfl (jk1 (kz_28 hk) (jk1 (kz_3 hk) jk0)) ?_
        obtain ⟨q3, hq3, h⟩ := jbe h
        refine ev_callV (ci := 3) (a := 28) (y2 := y_Rows_at) (o := 1) (idx := 31) (d2 := d_Rows_at) (n := 2) (mc2 := 0) (ms2 := 0) (As := [.int x4, .int 1]) (st := []) (res2 := (some (.int q3.1), (jRx kk), q3.2)) (by decide +kernel) rfl lk_1_31 mo_Rows_at mv_Rows_at ⟨Nat.le_of_ble_eq_true rfl, Nat.le_of_ble_eq_true rfl⟩ rfl rfl (kz_28 hk) (by decide) rfl (Nat.le_of_ble_eq_true rfl) ⟨Nat.le_refl _, Nat.le_refl _⟩ hG (e_Rows_at hG hk (kz_28 hk) hq3) ?_
        refine ev_seg (o := 1) (nL := 6) (q := 40) (xs := [(.iload_n 3, 1, 3, 0, .null)]) (L' := [some (.ref 83), some (.ref 3), some (.int x2), some (.int x3), some (.int x4), none]) (st' := [.int x3, .int q3.1]) (w' := q3.2) (g := []) (K := []) (by decide +kernel) rfl rfl rfl rfl jk0 ?_
        refine ev_icmp_ne (off := 56) (tgt := 96) (by decide +kernel) (by decide) (fun c9 => ?_) (fun c9 => ?_)
        · replace h := jneg c9 h
          refine ev_seg (o := 1) (nL := 6) (q := 3) (xs := [(.iinc 4 1, 3, 4, 0, .int 1), (.goto (-96), 3, 0, 0, .null)]) (L' := [some (.ref 83), some (.ref 3), some (.int x2), some (.int x3), some (.int (x4 + 1)), none]) (st' := []) (w' := q3.2) (g := []) (K := []) (by decide +kernel) rfl rfl rfl rfl jk0 ?_
          refine ev_mask [true, true, true, true, true, false] ?_
          exact ih _ _ _ _ _ h
        · replace h := jpos c9 h
          refine ev_seg (o := 1) (nL := 6) (q := 46) (xs := [(.iconst 0, 1, 0, 0, .int 0), (.istore 5, 2, 5, 0, .null)]) (L' := [some (.ref 83), some (.ref 3), some (.int x2), some (.int x3), some (.int x4), some (.int 0)]) (st' := []) (w' := q3.2) (g := []) (K := []) (by decide +kernel) rfl rfl rfl rfl jk0 ?_
          refine ev_mask [true, true, true, true, true, true] ?_
          exact t_Knowing_picturedOn_h46 hG hk ih jfu _ _ _ _ _ _ h
def f_Knowing_picturedOn (x2 : Int32) (x3 : Int32) (w : jW) : Option jW :=
  f_Knowing_picturedOn_h3 jfu x2 x3 0 w
set_option maxRecDepth 20000 in
theorem e_Knowing_picturedOn {l : Launch} {G : jG} (hG : jX G) {kk : Nat} (hk : 93 ≤ kk) {x2 : Int32} {x3 : Int32} {w : jW} {z : jW} (h : f_Knowing_picturedOn x2 x3 w = some z) : Ct l G y_Knowing_picturedOn d_Knowing_picturedOn 0 0 [.ref 83, .ref 3, .int x2, .int x3] (jRx kk) w (none, (jRx kk), z) := by
  rw [f_Knowing_picturedOn] at h
  refine Ct.of (L := [some (.ref 83), some (.ref 3), some (.int x2), some (.int x3), none, none]) (by decide) (Nat.le_of_ble_eq_true rfl) rfl ?_
  refine ev_seg (o := 1) (nL := 6) (q := 3) (xs := [(.iconst 0, 1, 0, 0, .int 0), (.istore 4, 2, 4, 0, .null)]) (L' := [some (.ref 83), some (.ref 3), some (.int x2), some (.int x3), some (.int 0), none]) (st' := []) (w' := w) (g := []) (K := []) (by decide +kernel) rfl rfl rfl rfl jk0 ?_
  refine ev_mask [true, true, true, true, true, false] ?_
  exact t_Knowing_picturedOn_h3 hG hk jfu _ _ _ _ _ h
def f_Knowing_sooner_j12 (x0 : Int32) (x2 : Int32) (s0 : Int32) (w : jW) : Option (Int32 × jW) :=
  if s0 ≤ x2 then
    some (x0, w)
  else
    some ((if s0 < x0 then s0 else x0), w)
set_option maxRecDepth 20000 in
theorem t_Knowing_sooner_j12 {l : Launch} {G : jG} (hG : jX G) {kk : Nat} (hk : 93 ≤ kk) {x0 : Int32} {x2 : Int32} {s0 : Int32} {w : jW} {z : (Int32 × jW)} (h : f_Knowing_sooner_j12 x0 x2 s0 w = some z) : Ev l G (jrm d_Knowing_sooner 0 0) y_Knowing_sooner (some (.int z.1), (jRx kk), z.2) 0 0 0 0 12 [some (.int x0), none, some (.int x2), none] [.int s0] (jRx kk) w := by
  rw [f_Knowing_sooner_j12] at h
  refine ev_seg (o := 1) (nL := 4) (q := 15) (xs := [(.istore_n 3, 1, 3, 0, .null), (.iload_n 3, 1, 3, 0, .null), (.iload_n 2, 1, 2, 0, .null)]) (L' := [some (.int x0), none, some (.int x2), some (.int s0)]) (st' := [.int x2, .int s0]) (w' := w) (g := []) (K := []) (by decide +kernel) rfl rfl rfl rfl jk0 ?_
  refine ev_icmp_le (off := 11) (tgt := 26) (by decide +kernel) (by decide) (fun c1 => ?_) (fun c1 => ?_)
  · replace h := jpos c1 h
    refine ev_seg (o := 1) (nL := 4) (q := 27) (xs := [(.iload_n 0, 1, 0, 0, .null)]) (L' := [some (.int x0), none, some (.int x2), some (.int s0)]) (st' := [.int x0]) (w' := w) (g := []) (K := []) (by decide +kernel) rfl rfl rfl rfl jk0 ?_
    cases h
    exact ev_iret (by decide +kernel) rfl rfl rfl rfl
  · replace h := jneg c1 h
    refine ev_seg (o := 1) (nL := 4) (q := 20) (xs := [(.iload_n 0, 1, 0, 0, .null), (.iload_n 3, 1, 3, 0, .null)]) (L' := [some (.int x0), none, some (.int x2), some (.int s0)]) (st' := [.int s0, .int x0]) (w' := w) (g := []) (K := []) (by decide +kernel) rfl rfl rfl rfl jk0 ?_
    refine ev_min (o := 1) (idx := 108) (by decide +kernel) rfl lk_1_108 ms_min hMath mc_min (Nat.le_of_ble_eq_true rfl) (Nat.le_of_ble_eq_true rfl) (Nat.le_of_ble_eq_true rfl) (Nat.le_of_ble_eq_true rfl) ?_
    refine ev_seg (o := 1) (nL := 4) (q := 27) (xs := [(.goto 4, 3, 0, 0, .null)]) (L' := [some (.int x0), none, some (.int x2), some (.int s0)]) (st' := [.int (if s0 < x0 then s0 else x0)]) (w' := w) (g := []) (K := []) (by decide +kernel) rfl rfl rfl rfl jk0 ?_
    cases h
    exact ev_iret (by decide +kernel) rfl rfl rfl rfl
def f_Knowing_sooner (x0 : Int32) (x1 : Int32) (x2 : Int32) (w : jW) : Option (Int32 × jW) :=
  if x1 ≤ x2 then
    f_Knowing_sooner_j12 x0 x2 (x1 + 1) w
  else
    f_Knowing_sooner_j12 x0 x2 x1 w
set_option maxRecDepth 20000 in
theorem e_Knowing_sooner {l : Launch} {G : jG} (hG : jX G) {kk : Nat} (hk : 93 ≤ kk) {x0 : Int32} {x1 : Int32} {x2 : Int32} {w : jW} {z : (Int32 × jW)} (h : f_Knowing_sooner x0 x1 x2 w = some z) : Ct l G y_Knowing_sooner d_Knowing_sooner 0 0 [.int x0, .int x1, .int x2] (jRx kk) w (some (.int z.1), (jRx kk), z.2) := by
  rw [f_Knowing_sooner] at h
  refine Ct.of (L := [some (.int x0), some (.int x1), some (.int x2), none]) (by decide) (Nat.le_of_ble_eq_true rfl) rfl ?_
  refine ev_seg (o := 1) (nL := 4) (q := 2) (xs := [(.iload_n 1, 1, 1, 0, .null), (.iload_n 2, 1, 2, 0, .null)]) (L' := [some (.int x0), some (.int x1), some (.int x2), none]) (st' := [.int x2, .int x1]) (w' := w) (g := []) (K := []) (by decide +kernel) rfl rfl rfl rfl jk0 ?_
  refine ev_icmp_le (off := 7) (tgt := 9) (by decide +kernel) (by decide) (fun c2 => ?_) (fun c2 => ?_)
  · replace h := jpos c2 h
    refine ev_seg (o := 1) (nL := 4) (q := 12) (xs := [(.iload_n 1, 1, 1, 0, .null), (.iconst 1, 1, 0, 0, .int 1), (.iadd, 1, 0, 0, .null)]) (L' := [some (.int x0), some (.int x1), some (.int x2), none]) (st' := [.int (x1 + 1)]) (w' := w) (g := []) (K := []) (by decide +kernel) rfl rfl rfl rfl jk0 ?_
    refine ev_mask [true, false, true, false] ?_
    exact t_Knowing_sooner_j12 hG hk h
  · replace h := jneg c2 h
    refine ev_seg (o := 1) (nL := 4) (q := 12) (xs := [(.iload_n 1, 1, 1, 0, .null), (.goto 6, 3, 0, 0, .null)]) (L' := [some (.int x0), some (.int x1), some (.int x2), none]) (st' := [.int x1]) (w' := w) (g := []) (K := []) (by decide +kernel) rfl rfl rfl rfl jk0 ?_
    refine ev_mask [true, false, true, false] ?_
    exact t_Knowing_sooner_j12 hG hk h
def f_Knowing_nextDay_h160 : Nat → Int32 → Int32 → Int32 → Int32 → Int32 → jW → Option (Int32 × jW)
  | 0, _, _, _, _, _, _ => none
  | n + 1, x1, x2, x3, x4, x5, w =>
  Option.bind (f_Rows_count 28 w) fun q3 =>
  if x5 < q3.1 then
    Option.bind (f_Rows_at 28 x5 1 q3.2) fun q4 =>
    Option.bind (f_Rows_at 28 x5 0 q4.2) fun q5 =>
    if q5.1 = x1 then
      if q4.1 ≤ x3 then
        Option.bind (f_Knowing_sooner x4 (q4.1 - 1) x2 q5.2) fun q6 =>
        (f_Knowing_nextDay_h160 n) x1 x2 x3 q6.1 (x5 + 1) q6.2
      else
        (f_Knowing_nextDay_h160 n) x1 x2 x3 x4 (x5 + 1) q5.2
    else
      (f_Knowing_nextDay_h160 n) x1 x2 x3 x4 (x5 + 1) q5.2
  else
    some (x4, q3.2)
set_option maxRecDepth 20000 in
theorem t_Knowing_nextDay_h160 {l : Launch} {G : jG} (hG : jX G) {kk : Nat} (hk : 93 ≤ kk) : ∀ (n : Nat) (x1 : Int32) (x2 : Int32) (x3 : Int32) (x4 : Int32) (x5 : Int32) (w : jW) (z : (Int32 × jW)), f_Knowing_nextDay_h160 n x1 x2 x3 x4 x5 w = some z → Ev l G (jrm d_Knowing_nextDay 0 0) y_Knowing_nextDay (some (.int z.1), (jRx kk), z.2) 0 0 0 0 160 [some (.ref 3), some (.int x1), some (.int x2), some (.int x3), some (.int x4), some (.int x5), none] [] (jRx kk) w := by
  intro n
  induction n with
  | zero => intro x1 x2 x3 x4 x5 w z h; simp only [f_Knowing_nextDay_h160] at h; cases h
  | succ n ih =>
    intro x1 x2 x3 x4 x5 w z h
    rw [f_Knowing_nextDay_h160] at h
    refine ev_seg (o := 1) (nL := 7) (q := 166) (xs := [(.iload 5, 2, 5, 0, .null), (.aload_n 0, 1, 0, 0, .null), (.getfield 122, 3, 6, 14, .ref 3)]) (L' := [some (.ref 3), some (.int x1), some (.int x2), some (.int x3), some (.int x4), some (.int x5), none]) (st' := [.ref 28, .int x5]) (w' := w) (g := []) (K := [(28, 3), (3, 6)]) (by decide +kernel) rfl rfl rfl rfl (jk1 (kz_28 hk) (jk1 (kz_3 hk) jk0)) ?_
    obtain ⟨q3, hq3, h⟩ := jbe h
    refine ev_callV (ci := 3) (a := 28) (y2 := y_Rows_count) (o := 1) (idx := 25) (d2 := d_Rows_count) (n := 0) (mc2 := 0) (ms2 := 0) (As := []) (st := [.int x5]) (res2 := (some (.int q3.1), (jRx kk), q3.2)) (by decide +kernel) rfl lk_1_25 mo_Rows_count mv_Rows_count ⟨Nat.le_of_ble_eq_true rfl, Nat.le_of_ble_eq_true rfl⟩ rfl rfl (kz_28 hk) (by decide) rfl (Nat.le_of_ble_eq_true rfl) ⟨Nat.le_refl _, Nat.le_refl _⟩ hG (e_Rows_count hG hk (kz_28 hk) hq3) ?_
    refine ev_icmp_ge (off := 53) (tgt := 222) (by decide +kernel) (by decide) (fun c9 => ?_) (fun c9 => ?_)
    · replace h := jneg c9 h
      refine ev_seg (o := 1) (nL := 7) (q := 224) (xs := [(.iload 4, 2, 4, 0, .null)]) (L' := [some (.ref 3), some (.int x1), some (.int x2), some (.int x3), some (.int x4), some (.int x5), none]) (st' := [.int x4]) (w' := q3.2) (g := []) (K := []) (by decide +kernel) rfl rfl rfl rfl jk0 ?_
      cases h
      exact ev_iret (by decide +kernel) rfl rfl rfl rfl
    · replace h := jpos c9 h
      refine ev_seg (o := 1) (nL := 7) (q := 179) (xs := [(.aload_n 0, 1, 0, 0, .null), (.getfield 122, 3, 6, 14, .ref 3), (.iload 5, 2, 5, 0, .null), (.iconst 1, 1, 0, 0, .int 1)]) (L' := [some (.ref 3), some (.int x1), some (.int x2), some (.int x3), some (.int x4), some (.int x5), none]) (st' := [.int 1, .int x5, .ref 28]) (w' := q3.2) (g := []) (K := [(28, 3), (3, 6)]) (by decide +kernel) rfl rfl rfl rfl (jk1 (kz_28 hk) (jk1 (kz_3 hk) jk0)) ?_
      obtain ⟨q4, hq4, h⟩ := jbe h
      refine ev_callV (ci := 3) (a := 28) (y2 := y_Rows_at) (o := 1) (idx := 31) (d2 := d_Rows_at) (n := 2) (mc2 := 0) (ms2 := 0) (As := [.int x5, .int 1]) (st := []) (res2 := (some (.int q4.1), (jRx kk), q4.2)) (by decide +kernel) rfl lk_1_31 mo_Rows_at mv_Rows_at ⟨Nat.le_of_ble_eq_true rfl, Nat.le_of_ble_eq_true rfl⟩ rfl rfl (kz_28 hk) (by decide) rfl (Nat.le_of_ble_eq_true rfl) ⟨Nat.le_refl _, Nat.le_refl _⟩ hG (e_Rows_at hG hk (kz_28 hk) hq4) ?_
      refine ev_seg (o := 1) (nL := 7) (q := 191) (xs := [(.istore 6, 2, 6, 0, .null), (.aload_n 0, 1, 0, 0, .null), (.getfield 122, 3, 6, 14, .ref 3), (.iload 5, 2, 5, 0, .null), (.iconst 0, 1, 0, 0, .int 0)]) (L' := [some (.ref 3), some (.int x1), some (.int x2), some (.int x3), some (.int x4), some (.int x5), some (.int q4.1)]) (st' := [.int 0, .int x5, .ref 28]) (w' := q4.2) (g := []) (K := [(28, 3), (3, 6)]) (by decide +kernel) rfl rfl rfl rfl (jk1 (kz_28 hk) (jk1 (kz_3 hk) jk0)) ?_
      obtain ⟨q5, hq5, h⟩ := jbe h
      refine ev_callV (ci := 3) (a := 28) (y2 := y_Rows_at) (o := 1) (idx := 31) (d2 := d_Rows_at) (n := 2) (mc2 := 0) (ms2 := 0) (As := [.int x5, .int 0]) (st := []) (res2 := (some (.int q5.1), (jRx kk), q5.2)) (by decide +kernel) rfl lk_1_31 mo_Rows_at mv_Rows_at ⟨Nat.le_of_ble_eq_true rfl, Nat.le_of_ble_eq_true rfl⟩ rfl rfl (kz_28 hk) (by decide) rfl (Nat.le_of_ble_eq_true rfl) ⟨Nat.le_refl _, Nat.le_refl _⟩ hG (e_Rows_at hG hk (kz_28 hk) hq5) ?_
      refine ev_seg (o := 1) (nL := 7) (q := 195) (xs := [(.iload_n 1, 1, 1, 0, .null)]) (L' := [some (.ref 3), some (.int x1), some (.int x2), some (.int x3), some (.int x4), some (.int x5), some (.int q4.1)]) (st' := [.int x1, .int q5.1]) (w' := q5.2) (g := []) (K := []) (by decide +kernel) rfl rfl rfl rfl jk0 ?_
      refine ev_icmp_ne (off := 21) (tgt := 216) (by decide +kernel) (by decide) (fun c8 => ?_) (fun c8 => ?_)
      · replace h := jneg c8 h
        refine ev_seg (o := 1) (nL := 7) (q := 160) (xs := [(.iinc 5 1, 3, 5, 0, .int 1), (.goto (-59), 3, 0, 0, .null)]) (L' := [some (.ref 3), some (.int x1), some (.int x2), some (.int x3), some (.int x4), some (.int (x5 + 1)), some (.int q4.1)]) (st' := []) (w' := q5.2) (g := []) (K := []) (by decide +kernel) rfl rfl rfl rfl jk0 ?_
        refine ev_mask [true, true, true, true, true, true, false] ?_
        exact ih _ _ _ _ _ _ _ h
      · replace h := jpos c8 h
        refine ev_seg (o := 1) (nL := 7) (q := 201) (xs := [(.iload 6, 2, 6, 0, .null), (.iload_n 3, 1, 3, 0, .null)]) (L' := [some (.ref 3), some (.int x1), some (.int x2), some (.int x3), some (.int x4), some (.int x5), some (.int q4.1)]) (st' := [.int x3, .int q4.1]) (w' := q5.2) (g := []) (K := []) (by decide +kernel) rfl rfl rfl rfl jk0 ?_
        refine ev_icmp_gt (off := 15) (tgt := 216) (by decide +kernel) (by decide) (fun c7 => ?_) (fun c7 => ?_)
        · replace h := jneg c7 h
          refine ev_seg (o := 1) (nL := 7) (q := 160) (xs := [(.iinc 5 1, 3, 5, 0, .int 1), (.goto (-59), 3, 0, 0, .null)]) (L' := [some (.ref 3), some (.int x1), some (.int x2), some (.int x3), some (.int x4), some (.int (x5 + 1)), some (.int q4.1)]) (st' := []) (w' := q5.2) (g := []) (K := []) (by decide +kernel) rfl rfl rfl rfl jk0 ?_
          refine ev_mask [true, true, true, true, true, true, false] ?_
          exact ih _ _ _ _ _ _ _ h
        · replace h := jpos c7 h
          refine ev_seg (o := 1) (nL := 7) (q := 211) (xs := [(.iload 4, 2, 4, 0, .null), (.iload 6, 2, 6, 0, .null), (.iconst 1, 1, 0, 0, .int 1), (.isub, 1, 0, 0, .null), (.iload_n 2, 1, 2, 0, .null)]) (L' := [some (.ref 3), some (.int x1), some (.int x2), some (.int x3), some (.int x4), some (.int x5), some (.int q4.1)]) (st' := [.int x2, .int (q4.1 - 1), .int x4]) (w' := q5.2) (g := []) (K := []) (by decide +kernel) rfl rfl rfl rfl jk0 ?_
          obtain ⟨q6, hq6, h⟩ := jbe h
          refine ev_callS (y2 := y_Knowing_sooner) (o := 1) (idx := 128) (d2 := d_Knowing_sooner) (n := 3) (mc2 := 0) (ms2 := 0) (As := [.int x4, .int (q4.1 - 1), .int x2]) (st := []) (res2 := (some (.int q6.1), (jRx kk), q6.2)) (by decide +kernel) rfl lk_1_128 mo_Knowing_sooner ms_Knowing_sooner ⟨Nat.le_of_ble_eq_true rfl, Nat.le_of_ble_eq_true rfl⟩ rfl rfl (Nat.le_of_ble_eq_true rfl) ⟨Nat.le_refl _, Nat.le_refl _⟩ hG (e_Knowing_sooner hG hk hq6) ?_
          refine ev_seg (o := 1) (nL := 7) (q := 160) (xs := [(.istore 4, 2, 4, 0, .null), (.iinc 5 1, 3, 5, 0, .int 1), (.goto (-59), 3, 0, 0, .null)]) (L' := [some (.ref 3), some (.int x1), some (.int x2), some (.int x3), some (.int q6.1), some (.int (x5 + 1)), some (.int q4.1)]) (st' := []) (w' := q6.2) (g := []) (K := []) (by decide +kernel) rfl rfl rfl rfl jk0 ?_
          refine ev_mask [true, true, true, true, true, true, false] ?_
          exact ih _ _ _ _ _ _ _ h
def f_Knowing_nextDay_h93 : Nat → Int32 → Int32 → Int32 → Int32 → Int32 → jW → Option (Int32 × jW)
  | 0, _, _, _, _, _, _ => none
  | n + 1, x1, x2, x3, x4, x5, w =>
  Option.bind (f_Rows_count 26 w) fun q2 =>
  if x5 < q2.1 then
    Option.bind (f_Rows_at 26 x5 6 q2.2) fun q10 =>
    Option.bind (f_Rows_at 26 x5 8 q10.2) fun q11 =>
    if q11.1 = x1 then
      if q10.1 ≤ x3 then
        Option.bind (f_Knowing_sooner x4 (q10.1 - 1) x2 q11.2) fun q12 =>
        (f_Knowing_nextDay_h93 n) x1 x2 x3 q12.1 (x5 + 1) q12.2
      else
        (f_Knowing_nextDay_h93 n) x1 x2 x3 x4 (x5 + 1) q11.2
    else
      (f_Knowing_nextDay_h93 n) x1 x2 x3 x4 (x5 + 1) q11.2
  else
    f_Knowing_nextDay_h160 jfu x1 x2 x3 x4 0 q2.2
set_option maxRecDepth 20000 in
theorem t_Knowing_nextDay_h93 {l : Launch} {G : jG} (hG : jX G) {kk : Nat} (hk : 93 ≤ kk) : ∀ (n : Nat) (x1 : Int32) (x2 : Int32) (x3 : Int32) (x4 : Int32) (x5 : Int32) (w : jW) (z : (Int32 × jW)), f_Knowing_nextDay_h93 n x1 x2 x3 x4 x5 w = some z → Ev l G (jrm d_Knowing_nextDay 0 0) y_Knowing_nextDay (some (.int z.1), (jRx kk), z.2) 0 0 0 0 93 [some (.ref 3), some (.int x1), some (.int x2), some (.int x3), some (.int x4), some (.int x5), none] [] (jRx kk) w := by
  intro n
  induction n with
  | zero => intro x1 x2 x3 x4 x5 w z h; simp only [f_Knowing_nextDay_h93] at h; cases h
  | succ n ih =>
    intro x1 x2 x3 x4 x5 w z h
    rw [f_Knowing_nextDay_h93] at h
    refine ev_seg (o := 1) (nL := 7) (q := 99) (xs := [(.iload 5, 2, 5, 0, .null), (.aload_n 0, 1, 0, 0, .null), (.getfield 73, 3, 6, 13, .ref 3)]) (L' := [some (.ref 3), some (.int x1), some (.int x2), some (.int x3), some (.int x4), some (.int x5), none]) (st' := [.ref 26, .int x5]) (w' := w) (g := []) (K := [(26, 3), (3, 6)]) (by decide +kernel) rfl rfl rfl rfl (jk1 (kz_26 hk) (jk1 (kz_3 hk) jk0)) ?_
    obtain ⟨q2, hq2, h⟩ := jbe h
    refine ev_callV (ci := 3) (a := 26) (y2 := y_Rows_count) (o := 1) (idx := 25) (d2 := d_Rows_count) (n := 0) (mc2 := 0) (ms2 := 0) (As := []) (st := [.int x5]) (res2 := (some (.int q2.1), (jRx kk), q2.2)) (by decide +kernel) rfl lk_1_25 mo_Rows_count mv_Rows_count ⟨Nat.le_of_ble_eq_true rfl, Nat.le_of_ble_eq_true rfl⟩ rfl rfl (kz_26 hk) (by decide) rfl (Nat.le_of_ble_eq_true rfl) ⟨Nat.le_refl _, Nat.le_refl _⟩ hG (e_Rows_count hG hk (kz_26 hk) hq2) ?_
    refine ev_icmp_ge (off := 55) (tgt := 157) (by decide +kernel) (by decide) (fun c15 => ?_) (fun c15 => ?_)
    · replace h := jneg c15 h
      refine ev_seg (o := 1) (nL := 7) (q := 160) (xs := [(.iconst 0, 1, 0, 0, .int 0), (.istore 5, 2, 5, 0, .null)]) (L' := [some (.ref 3), some (.int x1), some (.int x2), some (.int x3), some (.int x4), some (.int 0), none]) (st' := []) (w' := q2.2) (g := []) (K := []) (by decide +kernel) rfl rfl rfl rfl jk0 ?_
      refine ev_mask [true, true, true, true, true, true, false] ?_
      exact t_Knowing_nextDay_h160 hG hk jfu _ _ _ _ _ _ _ h
    · replace h := jpos c15 h
      refine ev_seg (o := 1) (nL := 7) (q := 113) (xs := [(.aload_n 0, 1, 0, 0, .null), (.getfield 73, 3, 6, 13, .ref 3), (.iload 5, 2, 5, 0, .null), (.bipush 6, 2, 0, 0, .int 6)]) (L' := [some (.ref 3), some (.int x1), some (.int x2), some (.int x3), some (.int x4), some (.int x5), none]) (st' := [.int 6, .int x5, .ref 26]) (w' := q2.2) (g := []) (K := [(26, 3), (3, 6)]) (by decide +kernel) rfl rfl rfl rfl (jk1 (kz_26 hk) (jk1 (kz_3 hk) jk0)) ?_
      obtain ⟨q10, hq10, h⟩ := jbe h
      refine ev_callV (ci := 3) (a := 26) (y2 := y_Rows_at) (o := 1) (idx := 31) (d2 := d_Rows_at) (n := 2) (mc2 := 0) (ms2 := 0) (As := [.int x5, .int 6]) (st := []) (res2 := (some (.int q10.1), (jRx kk), q10.2)) (by decide +kernel) rfl lk_1_31 mo_Rows_at mv_Rows_at ⟨Nat.le_of_ble_eq_true rfl, Nat.le_of_ble_eq_true rfl⟩ rfl rfl (kz_26 hk) (by decide) rfl (Nat.le_of_ble_eq_true rfl) ⟨Nat.le_refl _, Nat.le_refl _⟩ hG (e_Rows_at hG hk (kz_26 hk) hq10) ?_
      refine ev_seg (o := 1) (nL := 7) (q := 126) (xs := [(.istore 6, 2, 6, 0, .null), (.aload_n 0, 1, 0, 0, .null), (.getfield 73, 3, 6, 13, .ref 3), (.iload 5, 2, 5, 0, .null), (.bipush 8, 2, 0, 0, .int 8)]) (L' := [some (.ref 3), some (.int x1), some (.int x2), some (.int x3), some (.int x4), some (.int x5), some (.int q10.1)]) (st' := [.int 8, .int x5, .ref 26]) (w' := q10.2) (g := []) (K := [(26, 3), (3, 6)]) (by decide +kernel) rfl rfl rfl rfl (jk1 (kz_26 hk) (jk1 (kz_3 hk) jk0)) ?_
      obtain ⟨q11, hq11, h⟩ := jbe h
      refine ev_callV (ci := 3) (a := 26) (y2 := y_Rows_at) (o := 1) (idx := 31) (d2 := d_Rows_at) (n := 2) (mc2 := 0) (ms2 := 0) (As := [.int x5, .int 8]) (st := []) (res2 := (some (.int q11.1), (jRx kk), q11.2)) (by decide +kernel) rfl lk_1_31 mo_Rows_at mv_Rows_at ⟨Nat.le_of_ble_eq_true rfl, Nat.le_of_ble_eq_true rfl⟩ rfl rfl (kz_26 hk) (by decide) rfl (Nat.le_of_ble_eq_true rfl) ⟨Nat.le_refl _, Nat.le_refl _⟩ hG (e_Rows_at hG hk (kz_26 hk) hq11) ?_
      refine ev_seg (o := 1) (nL := 7) (q := 130) (xs := [(.iload_n 1, 1, 1, 0, .null)]) (L' := [some (.ref 3), some (.int x1), some (.int x2), some (.int x3), some (.int x4), some (.int x5), some (.int q10.1)]) (st' := [.int x1, .int q11.1]) (w' := q11.2) (g := []) (K := []) (by decide +kernel) rfl rfl rfl rfl jk0 ?_
      refine ev_icmp_ne (off := 21) (tgt := 151) (by decide +kernel) (by decide) (fun c14 => ?_) (fun c14 => ?_)
      · replace h := jneg c14 h
        refine ev_seg (o := 1) (nL := 7) (q := 93) (xs := [(.iinc 5 1, 3, 5, 0, .int 1), (.goto (-61), 3, 0, 0, .null)]) (L' := [some (.ref 3), some (.int x1), some (.int x2), some (.int x3), some (.int x4), some (.int (x5 + 1)), some (.int q10.1)]) (st' := []) (w' := q11.2) (g := []) (K := []) (by decide +kernel) rfl rfl rfl rfl jk0 ?_
        refine ev_mask [true, true, true, true, true, true, false] ?_
        exact ih _ _ _ _ _ _ _ h
      · replace h := jpos c14 h
        refine ev_seg (o := 1) (nL := 7) (q := 136) (xs := [(.iload 6, 2, 6, 0, .null), (.iload_n 3, 1, 3, 0, .null)]) (L' := [some (.ref 3), some (.int x1), some (.int x2), some (.int x3), some (.int x4), some (.int x5), some (.int q10.1)]) (st' := [.int x3, .int q10.1]) (w' := q11.2) (g := []) (K := []) (by decide +kernel) rfl rfl rfl rfl jk0 ?_
        refine ev_icmp_gt (off := 15) (tgt := 151) (by decide +kernel) (by decide) (fun c13 => ?_) (fun c13 => ?_)
        · replace h := jneg c13 h
          refine ev_seg (o := 1) (nL := 7) (q := 93) (xs := [(.iinc 5 1, 3, 5, 0, .int 1), (.goto (-61), 3, 0, 0, .null)]) (L' := [some (.ref 3), some (.int x1), some (.int x2), some (.int x3), some (.int x4), some (.int (x5 + 1)), some (.int q10.1)]) (st' := []) (w' := q11.2) (g := []) (K := []) (by decide +kernel) rfl rfl rfl rfl jk0 ?_
          refine ev_mask [true, true, true, true, true, true, false] ?_
          exact ih _ _ _ _ _ _ _ h
        · replace h := jpos c13 h
          refine ev_seg (o := 1) (nL := 7) (q := 146) (xs := [(.iload 4, 2, 4, 0, .null), (.iload 6, 2, 6, 0, .null), (.iconst 1, 1, 0, 0, .int 1), (.isub, 1, 0, 0, .null), (.iload_n 2, 1, 2, 0, .null)]) (L' := [some (.ref 3), some (.int x1), some (.int x2), some (.int x3), some (.int x4), some (.int x5), some (.int q10.1)]) (st' := [.int x2, .int (q10.1 - 1), .int x4]) (w' := q11.2) (g := []) (K := []) (by decide +kernel) rfl rfl rfl rfl jk0 ?_
          obtain ⟨q12, hq12, h⟩ := jbe h
          refine ev_callS (y2 := y_Knowing_sooner) (o := 1) (idx := 128) (d2 := d_Knowing_sooner) (n := 3) (mc2 := 0) (ms2 := 0) (As := [.int x4, .int (q10.1 - 1), .int x2]) (st := []) (res2 := (some (.int q12.1), (jRx kk), q12.2)) (by decide +kernel) rfl lk_1_128 mo_Knowing_sooner ms_Knowing_sooner ⟨Nat.le_of_ble_eq_true rfl, Nat.le_of_ble_eq_true rfl⟩ rfl rfl (Nat.le_of_ble_eq_true rfl) ⟨Nat.le_refl _, Nat.le_refl _⟩ hG (e_Knowing_sooner hG hk hq12) ?_
          refine ev_seg (o := 1) (nL := 7) (q := 93) (xs := [(.istore 4, 2, 4, 0, .null), (.iinc 5 1, 3, 5, 0, .int 1), (.goto (-61), 3, 0, 0, .null)]) (L' := [some (.ref 3), some (.int x1), some (.int x2), some (.int x3), some (.int q12.1), some (.int (x5 + 1)), some (.int q10.1)]) (st' := []) (w' := q12.2) (g := []) (K := []) (by decide +kernel) rfl rfl rfl rfl jk0 ?_
          refine ev_mask [true, true, true, true, true, true, false] ?_
          exact ih _ _ _ _ _ _ _ h
def f_Knowing_nextDay_j52 (k8 : Int32 → Int32 → Int32 → Int32 → Int32 → jW → Option (Int32 × jW)) (x1 : Int32) (x2 : Int32) (x3 : Int32) (x4 : Int32) (x5 : Int32) (w : jW) : Option (Int32 × jW) :=
  Option.bind (f_Rows_at 12 x5 2 w) fun q17 =>
  if q17.1 = x1 then
    Option.bind (f_Rows_at 12 x5 4 q17.2) fun q18 =>
    Option.bind (f_Knowing_sooner x4 q18.1 x2 q18.2) fun q19 =>
    k8 x1 x2 x3 q19.1 (x5 + 1) q19.2
  else
    k8 x1 x2 x3 x4 (x5 + 1) q17.2
set_option maxRecDepth 20000 in
theorem t_Knowing_nextDay_j52 {l : Launch} {G : jG} (hG : jX G) {kk : Nat} (hk : 93 ≤ kk) {k8 : Int32 → Int32 → Int32 → Int32 → Int32 → jW → Option (Int32 × jW)} (hk8 : ∀ (x1 : Int32) (x2 : Int32) (x3 : Int32) (x4 : Int32) (x5 : Int32) (w : jW) (z : (Int32 × jW)), k8 x1 x2 x3 x4 x5 w = some z → Ev l G (jrm d_Knowing_nextDay 0 0) y_Knowing_nextDay (some (.int z.1), (jRx kk), z.2) 0 0 0 0 8 [some (.ref 3), some (.int x1), some (.int x2), some (.int x3), some (.int x4), some (.int x5), none] [] (jRx kk) w) {x1 : Int32} {x2 : Int32} {x3 : Int32} {x4 : Int32} {x5 : Int32} {w : jW} {z : (Int32 × jW)} (h : f_Knowing_nextDay_j52 k8 x1 x2 x3 x4 x5 w = some z) : Ev l G (jrm d_Knowing_nextDay 0 0) y_Knowing_nextDay (some (.int z.1), (jRx kk), z.2) 0 0 0 0 52 [some (.ref 3), some (.int x1), some (.int x2), some (.int x3), some (.int x4), some (.int x5), none] [] (jRx kk) w := by
  rw [f_Knowing_nextDay_j52] at h
  refine ev_seg (o := 1) (nL := 7) (q := 59) (xs := [(.aload_n 0, 1, 0, 0, .null), (.getfield 76, 3, 6, 9, .ref 3), (.iload 5, 2, 5, 0, .null), (.iconst 2, 1, 0, 0, .int 2)]) (L' := [some (.ref 3), some (.int x1), some (.int x2), some (.int x3), some (.int x4), some (.int x5), none]) (st' := [.int 2, .int x5, .ref 12]) (w' := w) (g := []) (K := [(12, 3), (3, 6)]) (by decide +kernel) rfl rfl rfl rfl (jk1 (kz_12 hk) (jk1 (kz_3 hk) jk0)) ?_
  obtain ⟨q17, hq17, h⟩ := jbe h
  refine ev_callV (ci := 3) (a := 12) (y2 := y_Rows_at) (o := 1) (idx := 31) (d2 := d_Rows_at) (n := 2) (mc2 := 0) (ms2 := 0) (As := [.int x5, .int 2]) (st := []) (res2 := (some (.int q17.1), (jRx kk), q17.2)) (by decide +kernel) rfl lk_1_31 mo_Rows_at mv_Rows_at ⟨Nat.le_of_ble_eq_true rfl, Nat.le_of_ble_eq_true rfl⟩ rfl rfl (kz_12 hk) (by decide) rfl (Nat.le_of_ble_eq_true rfl) ⟨Nat.le_refl _, Nat.le_refl _⟩ hG (e_Rows_at hG hk (kz_12 hk) hq17) ?_
  refine ev_seg (o := 1) (nL := 7) (q := 63) (xs := [(.iload_n 1, 1, 1, 0, .null)]) (L' := [some (.ref 3), some (.int x1), some (.int x2), some (.int x3), some (.int x4), some (.int x5), none]) (st' := [.int x1, .int q17.1]) (w' := q17.2) (g := []) (K := []) (by decide +kernel) rfl rfl rfl rfl jk0 ?_
  refine ev_icmp_ne (off := 21) (tgt := 84) (by decide +kernel) (by decide) (fun c20 => ?_) (fun c20 => ?_)
  · replace h := jneg c20 h
    refine ev_seg (o := 1) (nL := 7) (q := 8) (xs := [(.iinc 5 1, 3, 5, 0, .int 1), (.goto (-79), 3, 0, 0, .null)]) (L' := [some (.ref 3), some (.int x1), some (.int x2), some (.int x3), some (.int x4), some (.int (x5 + 1)), none]) (st' := []) (w' := q17.2) (g := []) (K := []) (by decide +kernel) rfl rfl rfl rfl jk0 ?_
    refine ev_mask [true, true, true, true, true, true, false] ?_
    exact hk8 _ _ _ _ _ _ _ h
  · replace h := jpos c20 h
    refine ev_seg (o := 1) (nL := 7) (q := 75) (xs := [(.iload 4, 2, 4, 0, .null), (.aload_n 0, 1, 0, 0, .null), (.getfield 76, 3, 6, 9, .ref 3), (.iload 5, 2, 5, 0, .null), (.iconst 4, 1, 0, 0, .int 4)]) (L' := [some (.ref 3), some (.int x1), some (.int x2), some (.int x3), some (.int x4), some (.int x5), none]) (st' := [.int 4, .int x5, .ref 12, .int x4]) (w' := q17.2) (g := []) (K := [(12, 3), (3, 6)]) (by decide +kernel) rfl rfl rfl rfl (jk1 (kz_12 hk) (jk1 (kz_3 hk) jk0)) ?_
    obtain ⟨q18, hq18, h⟩ := jbe h
    refine ev_callV (ci := 3) (a := 12) (y2 := y_Rows_at) (o := 1) (idx := 31) (d2 := d_Rows_at) (n := 2) (mc2 := 0) (ms2 := 0) (As := [.int x5, .int 4]) (st := [.int x4]) (res2 := (some (.int q18.1), (jRx kk), q18.2)) (by decide +kernel) rfl lk_1_31 mo_Rows_at mv_Rows_at ⟨Nat.le_of_ble_eq_true rfl, Nat.le_of_ble_eq_true rfl⟩ rfl rfl (kz_12 hk) (by decide) rfl (Nat.le_of_ble_eq_true rfl) ⟨Nat.le_refl _, Nat.le_refl _⟩ hG (e_Rows_at hG hk (kz_12 hk) hq18) ?_
    refine ev_seg (o := 1) (nL := 7) (q := 79) (xs := [(.iload_n 2, 1, 2, 0, .null)]) (L' := [some (.ref 3), some (.int x1), some (.int x2), some (.int x3), some (.int x4), some (.int x5), none]) (st' := [.int x2, .int q18.1, .int x4]) (w' := q18.2) (g := []) (K := []) (by decide +kernel) rfl rfl rfl rfl jk0 ?_
    obtain ⟨q19, hq19, h⟩ := jbe h
    refine ev_callS (y2 := y_Knowing_sooner) (o := 1) (idx := 128) (d2 := d_Knowing_sooner) (n := 3) (mc2 := 0) (ms2 := 0) (As := [.int x4, .int q18.1, .int x2]) (st := []) (res2 := (some (.int q19.1), (jRx kk), q19.2)) (by decide +kernel) rfl lk_1_128 mo_Knowing_sooner ms_Knowing_sooner ⟨Nat.le_of_ble_eq_true rfl, Nat.le_of_ble_eq_true rfl⟩ rfl rfl (Nat.le_of_ble_eq_true rfl) ⟨Nat.le_refl _, Nat.le_refl _⟩ hG (e_Knowing_sooner hG hk hq19) ?_
    refine ev_seg (o := 1) (nL := 7) (q := 8) (xs := [(.istore 4, 2, 4, 0, .null), (.iinc 5 1, 3, 5, 0, .int 1), (.goto (-79), 3, 0, 0, .null)]) (L' := [some (.ref 3), some (.int x1), some (.int x2), some (.int x3), some (.int q19.1), some (.int (x5 + 1)), none]) (st' := []) (w' := q19.2) (g := []) (K := []) (by decide +kernel) rfl rfl rfl rfl jk0 ?_
    refine ev_mask [true, true, true, true, true, true, false] ?_
    exact hk8 _ _ _ _ _ _ _ h
def f_Knowing_nextDay_h8 : Nat → Int32 → Int32 → Int32 → Int32 → Int32 → jW → Option (Int32 × jW)
  | 0, _, _, _, _, _, _ => none
  | n + 1, x1, x2, x3, x4, x5, w =>
  Option.bind (f_Rows_count 12 w) fun q1 =>
  if x5 < q1.1 then
    Option.bind (f_Rows_at 12 x5 1 q1.2) fun q16 =>
    if q16.1 = x1 then
      Option.bind (f_Rows_at 12 x5 3 q16.2) fun q21 =>
      Option.bind (f_Knowing_sooner x4 q21.1 x2 q21.2) fun q22 =>
      f_Knowing_nextDay_j52 (f_Knowing_nextDay_h8 n) x1 x2 x3 q22.1 x5 q22.2
    else
      f_Knowing_nextDay_j52 (f_Knowing_nextDay_h8 n) x1 x2 x3 x4 x5 q16.2
  else
    f_Knowing_nextDay_h93 jfu x1 x2 x3 x4 0 q1.2
set_option maxRecDepth 20000 in
theorem t_Knowing_nextDay_h8 {l : Launch} {G : jG} (hG : jX G) {kk : Nat} (hk : 93 ≤ kk) : ∀ (n : Nat) (x1 : Int32) (x2 : Int32) (x3 : Int32) (x4 : Int32) (x5 : Int32) (w : jW) (z : (Int32 × jW)), f_Knowing_nextDay_h8 n x1 x2 x3 x4 x5 w = some z → Ev l G (jrm d_Knowing_nextDay 0 0) y_Knowing_nextDay (some (.int z.1), (jRx kk), z.2) 0 0 0 0 8 [some (.ref 3), some (.int x1), some (.int x2), some (.int x3), some (.int x4), some (.int x5), none] [] (jRx kk) w := by
  intro n
  induction n with
  | zero => intro x1 x2 x3 x4 x5 w z h; simp only [f_Knowing_nextDay_h8] at h; cases h
  | succ n ih =>
    intro x1 x2 x3 x4 x5 w z h
    rw [f_Knowing_nextDay_h8] at h
    refine ev_seg (o := 1) (nL := 7) (q := 14) (xs := [(.iload 5, 2, 5, 0, .null), (.aload_n 0, 1, 0, 0, .null), (.getfield 76, 3, 6, 9, .ref 3)]) (L' := [some (.ref 3), some (.int x1), some (.int x2), some (.int x3), some (.int x4), some (.int x5), none]) (st' := [.ref 12, .int x5]) (w' := w) (g := []) (K := [(12, 3), (3, 6)]) (by decide +kernel) rfl rfl rfl rfl (jk1 (kz_12 hk) (jk1 (kz_3 hk) jk0)) ?_
    obtain ⟨q1, hq1, h⟩ := jbe h
    refine ev_callV (ci := 3) (a := 12) (y2 := y_Rows_count) (o := 1) (idx := 25) (d2 := d_Rows_count) (n := 0) (mc2 := 0) (ms2 := 0) (As := []) (st := [.int x5]) (res2 := (some (.int q1.1), (jRx kk), q1.2)) (by decide +kernel) rfl lk_1_25 mo_Rows_count mv_Rows_count ⟨Nat.le_of_ble_eq_true rfl, Nat.le_of_ble_eq_true rfl⟩ rfl rfl (kz_12 hk) (by decide) rfl (Nat.le_of_ble_eq_true rfl) ⟨Nat.le_refl _, Nat.le_refl _⟩ hG (e_Rows_count hG hk (kz_12 hk) hq1) ?_
    refine ev_icmp_ge (off := 73) (tgt := 90) (by decide +kernel) (by decide) (fun c24 => ?_) (fun c24 => ?_)
    · replace h := jneg c24 h
      refine ev_seg (o := 1) (nL := 7) (q := 93) (xs := [(.iconst 0, 1, 0, 0, .int 0), (.istore 5, 2, 5, 0, .null)]) (L' := [some (.ref 3), some (.int x1), some (.int x2), some (.int x3), some (.int x4), some (.int 0), none]) (st' := []) (w' := q1.2) (g := []) (K := []) (by decide +kernel) rfl rfl rfl rfl jk0 ?_
      refine ev_mask [true, true, true, true, true, true, false] ?_
      exact t_Knowing_nextDay_h93 hG hk jfu _ _ _ _ _ _ _ h
    · replace h := jpos c24 h
      refine ev_seg (o := 1) (nL := 7) (q := 27) (xs := [(.aload_n 0, 1, 0, 0, .null), (.getfield 76, 3, 6, 9, .ref 3), (.iload 5, 2, 5, 0, .null), (.iconst 1, 1, 0, 0, .int 1)]) (L' := [some (.ref 3), some (.int x1), some (.int x2), some (.int x3), some (.int x4), some (.int x5), none]) (st' := [.int 1, .int x5, .ref 12]) (w' := q1.2) (g := []) (K := [(12, 3), (3, 6)]) (by decide +kernel) rfl rfl rfl rfl (jk1 (kz_12 hk) (jk1 (kz_3 hk) jk0)) ?_
      obtain ⟨q16, hq16, h⟩ := jbe h
      refine ev_callV (ci := 3) (a := 12) (y2 := y_Rows_at) (o := 1) (idx := 31) (d2 := d_Rows_at) (n := 2) (mc2 := 0) (ms2 := 0) (As := [.int x5, .int 1]) (st := []) (res2 := (some (.int q16.1), (jRx kk), q16.2)) (by decide +kernel) rfl lk_1_31 mo_Rows_at mv_Rows_at ⟨Nat.le_of_ble_eq_true rfl, Nat.le_of_ble_eq_true rfl⟩ rfl rfl (kz_12 hk) (by decide) rfl (Nat.le_of_ble_eq_true rfl) ⟨Nat.le_refl _, Nat.le_refl _⟩ hG (e_Rows_at hG hk (kz_12 hk) hq16) ?_
      refine ev_seg (o := 1) (nL := 7) (q := 31) (xs := [(.iload_n 1, 1, 1, 0, .null)]) (L' := [some (.ref 3), some (.int x1), some (.int x2), some (.int x3), some (.int x4), some (.int x5), none]) (st' := [.int x1, .int q16.1]) (w' := q16.2) (g := []) (K := []) (by decide +kernel) rfl rfl rfl rfl jk0 ?_
      refine ev_icmp_ne (off := 21) (tgt := 52) (by decide +kernel) (by decide) (fun c23 => ?_) (fun c23 => ?_)
      · replace h := jneg c23 h
        refine ev_mask [true, true, true, true, true, true, false] ?_
        exact t_Knowing_nextDay_j52 hG hk ih h
      · replace h := jpos c23 h
        refine ev_seg (o := 1) (nL := 7) (q := 43) (xs := [(.iload 4, 2, 4, 0, .null), (.aload_n 0, 1, 0, 0, .null), (.getfield 76, 3, 6, 9, .ref 3), (.iload 5, 2, 5, 0, .null), (.iconst 3, 1, 0, 0, .int 3)]) (L' := [some (.ref 3), some (.int x1), some (.int x2), some (.int x3), some (.int x4), some (.int x5), none]) (st' := [.int 3, .int x5, .ref 12, .int x4]) (w' := q16.2) (g := []) (K := [(12, 3), (3, 6)]) (by decide +kernel) rfl rfl rfl rfl (jk1 (kz_12 hk) (jk1 (kz_3 hk) jk0)) ?_
        obtain ⟨q21, hq21, h⟩ := jbe h
        refine ev_callV (ci := 3) (a := 12) (y2 := y_Rows_at) (o := 1) (idx := 31) (d2 := d_Rows_at) (n := 2) (mc2 := 0) (ms2 := 0) (As := [.int x5, .int 3]) (st := [.int x4]) (res2 := (some (.int q21.1), (jRx kk), q21.2)) (by decide +kernel) rfl lk_1_31 mo_Rows_at mv_Rows_at ⟨Nat.le_of_ble_eq_true rfl, Nat.le_of_ble_eq_true rfl⟩ rfl rfl (kz_12 hk) (by decide) rfl (Nat.le_of_ble_eq_true rfl) ⟨Nat.le_refl _, Nat.le_refl _⟩ hG (e_Rows_at hG hk (kz_12 hk) hq21) ?_
        refine ev_seg (o := 1) (nL := 7) (q := 47) (xs := [(.iload_n 2, 1, 2, 0, .null)]) (L' := [some (.ref 3), some (.int x1), some (.int x2), some (.int x3), some (.int x4), some (.int x5), none]) (st' := [.int x2, .int q21.1, .int x4]) (w' := q21.2) (g := []) (K := []) (by decide +kernel) rfl rfl rfl rfl jk0 ?_
        obtain ⟨q22, hq22, h⟩ := jbe h
        refine ev_callS (y2 := y_Knowing_sooner) (o := 1) (idx := 128) (d2 := d_Knowing_sooner) (n := 3) (mc2 := 0) (ms2 := 0) (As := [.int x4, .int q21.1, .int x2]) (st := []) (res2 := (some (.int q22.1), (jRx kk), q22.2)) (by decide +kernel) rfl lk_1_128 mo_Knowing_sooner ms_Knowing_sooner ⟨Nat.le_of_ble_eq_true rfl, Nat.le_of_ble_eq_true rfl⟩ rfl rfl (Nat.le_of_ble_eq_true rfl) ⟨Nat.le_refl _, Nat.le_refl _⟩ hG (e_Knowing_sooner hG hk hq22) ?_
        refine ev_seg (o := 1) (nL := 7) (q := 52) (xs := [(.istore 4, 2, 4, 0, .null)]) (L' := [some (.ref 3), some (.int x1), some (.int x2), some (.int x3), some (.int q22.1), some (.int x5), none]) (st' := []) (w' := q22.2) (g := []) (K := []) (by decide +kernel) rfl rfl rfl rfl jk0 ?_
        refine ev_mask [true, true, true, true, true, true, false] ?_
        exact t_Knowing_nextDay_j52 hG hk ih h
def f_Knowing_nextDay (x1 : Int32) (x2 : Int32) (x3 : Int32) (w : jW) : Option (Int32 × jW) :=
  f_Knowing_nextDay_h8 jfu x1 x2 x3 2000 0 w
set_option maxRecDepth 20000 in
theorem e_Knowing_nextDay {l : Launch} {G : jG} (hG : jX G) {kk : Nat} (hk : 93 ≤ kk) {x1 : Int32} {x2 : Int32} {x3 : Int32} {w : jW} {z : (Int32 × jW)} (h : f_Knowing_nextDay x1 x2 x3 w = some z) : Ct l G y_Knowing_nextDay d_Knowing_nextDay 0 0 [.ref 3, .int x1, .int x2, .int x3] (jRx kk) w (some (.int z.1), (jRx kk), z.2) := by
  rw [f_Knowing_nextDay] at h
  refine Ct.of (L := [some (.ref 3), some (.int x1), some (.int x2), some (.int x3), none, none, none]) (by decide) (Nat.le_of_ble_eq_true rfl) rfl ?_
  refine ev_seg (o := 1) (nL := 7) (q := 8) (xs := [(.sipush 2000, 3, 0, 0, .int 2000), (.istore 4, 2, 4, 0, .null), (.iconst 0, 1, 0, 0, .int 0), (.istore 5, 2, 5, 0, .null)]) (L' := [some (.ref 3), some (.int x1), some (.int x2), some (.int x3), some (.int 2000), some (.int 0), none]) (st' := []) (w' := w) (g := []) (K := []) (by decide +kernel) rfl rfl rfl rfl jk0 ?_
  refine ev_mask [true, true, true, true, true, true, false] ?_
  exact t_Knowing_nextDay_h8 hG hk jfu _ _ _ _ _ _ _ h
def f_Knowing_walk_j109 (k35 : Int32 → Int32 → Int32 → Int32 → Int32 → jW → Option jW) (x2 : Int32) (x3 : Int32) (x4 : Int32) (x5 : Int32) (x6 : Int32) (w : jW) : Option jW :=
  Option.bind (f_Knowing_nextDay x2 x5 x4 w) fun q4 =>
  k35 x2 x3 x4 q4.1 (x6 + 1) q4.2
set_option maxRecDepth 20000 in
theorem t_Knowing_walk_j109 {l : Launch} {G : jG} (hG : jX G) {kk : Nat} (hk : 93 ≤ kk) {k35 : Int32 → Int32 → Int32 → Int32 → Int32 → jW → Option jW} (hk35 : ∀ (x2 : Int32) (x3 : Int32) (x4 : Int32) (x5 : Int32) (x6 : Int32) (w : jW) (z : jW), k35 x2 x3 x4 x5 x6 w = some z → Ev l G (jrm d_Knowing_walk 0 0) y_Knowing_walk (none, (jRx kk), z) 0 0 0 0 35 [some (.ref 83), some (.ref 3), some (.int x2), some (.int x3), some (.int x4), some (.int x5), some (.int x6)] [] (jRx kk) w) {x2 : Int32} {x3 : Int32} {x4 : Int32} {x5 : Int32} {x6 : Int32} {w : jW} {z : jW} (h : f_Knowing_walk_j109 k35 x2 x3 x4 x5 x6 w = some z) : Ev l G (jrm d_Knowing_walk 0 0) y_Knowing_walk (none, (jRx kk), z) 0 0 0 0 109 [some (.ref 83), some (.ref 3), some (.int x2), some (.int x3), some (.int x4), some (.int x5), some (.int x6)] [] (jRx kk) w := by
  rw [f_Knowing_walk_j109] at h
  refine ev_seg (o := 1) (nL := 7) (q := 115) (xs := [(.aload_n 1, 1, 1, 0, .null), (.iload_n 2, 1, 2, 0, .null), (.iload 5, 2, 5, 0, .null), (.iload 4, 2, 4, 0, .null)]) (L' := [some (.ref 83), some (.ref 3), some (.int x2), some (.int x3), some (.int x4), some (.int x5), some (.int x6)]) (st' := [.int x4, .int x5, .int x2, .ref 3]) (w' := w) (g := []) (K := []) (by decide +kernel) rfl rfl rfl rfl jk0 ?_
  obtain ⟨q4, hq4, h⟩ := jbe h
  refine ev_callS (y2 := y_Knowing_nextDay) (o := 1) (idx := 69) (d2 := d_Knowing_nextDay) (n := 4) (mc2 := 0) (ms2 := 0) (As := [.ref 3, .int x2, .int x5, .int x4]) (st := []) (res2 := (some (.int q4.1), (jRx kk), q4.2)) (by decide +kernel) rfl lk_1_69 mo_Knowing_nextDay ms_Knowing_nextDay ⟨Nat.le_of_ble_eq_true rfl, Nat.le_of_ble_eq_true rfl⟩ rfl rfl (Nat.le_of_ble_eq_true rfl) ⟨Nat.le_refl _, Nat.le_refl _⟩ hG (e_Knowing_nextDay hG hk hq4) ?_
  refine ev_seg (o := 1) (nL := 7) (q := 35) (xs := [(.istore 5, 2, 5, 0, .null), (.iinc 6 1, 3, 6, 0, .int 1), (.goto (-88), 3, 0, 0, .null)]) (L' := [some (.ref 83), some (.ref 3), some (.int x2), some (.int x3), some (.int x4), some (.int q4.1), some (.int (x6 + 1))]) (st' := []) (w' := q4.2) (g := []) (K := []) (by decide +kernel) rfl rfl rfl rfl jk0 ?_
  refine ev_mask [true, true, true, true, true, true, true] ?_
  exact hk35 _ _ _ _ _ _ _ h
def f_Knowing_walk_j69 (k35 : Int32 → Int32 → Int32 → Int32 → Int32 → jW → Option jW) (x2 : Int32) (x3 : Int32) (x4 : Int32) (x5 : Int32) (x6 : Int32) (w : jW) : Option jW :=
  Option.bind (f_Rows_at 6 x2 1 w) fun q2 =>
  Option.bind (f_Knowing_spread q2.1 q2.2) fun q3 =>
  if x5 < x4 then
    Option.bind (f_Knowing_visitedOn x2 (x5 + 1) q3) fun q5 =>
    Option.bind (f_Knowing_picturedOn x2 (x5 + 1) q5) fun q6 =>
    f_Knowing_walk_j109 k35 x2 x3 x4 x5 x6 q6
  else
    f_Knowing_walk_j109 k35 x2 x3 x4 x5 x6 q3
set_option maxRecDepth 20000 in
theorem t_Knowing_walk_j69 {l : Launch} {G : jG} (hG : jX G) {kk : Nat} (hk : 93 ≤ kk) {k35 : Int32 → Int32 → Int32 → Int32 → Int32 → jW → Option jW} (hk35 : ∀ (x2 : Int32) (x3 : Int32) (x4 : Int32) (x5 : Int32) (x6 : Int32) (w : jW) (z : jW), k35 x2 x3 x4 x5 x6 w = some z → Ev l G (jrm d_Knowing_walk 0 0) y_Knowing_walk (none, (jRx kk), z) 0 0 0 0 35 [some (.ref 83), some (.ref 3), some (.int x2), some (.int x3), some (.int x4), some (.int x5), some (.int x6)] [] (jRx kk) w) {x2 : Int32} {x3 : Int32} {x4 : Int32} {x5 : Int32} {x6 : Int32} {w : jW} {z : jW} (h : f_Knowing_walk_j69 k35 x2 x3 x4 x5 x6 w = some z) : Ev l G (jrm d_Knowing_walk 0 0) y_Knowing_walk (none, (jRx kk), z) 0 0 0 0 69 [some (.ref 83), some (.ref 3), some (.int x2), some (.int x3), some (.int x4), some (.int x5), some (.int x6)] [] (jRx kk) w := by
  rw [f_Knowing_walk_j69] at h
  refine ev_seg (o := 1) (nL := 7) (q := 76) (xs := [(.aload_n 0, 1, 0, 0, .null), (.aload_n 1, 1, 1, 0, .null), (.getfield 56, 3, 6, 6, .ref 3), (.iload_n 2, 1, 2, 0, .null), (.iconst 1, 1, 0, 0, .int 1)]) (L' := [some (.ref 83), some (.ref 3), some (.int x2), some (.int x3), some (.int x4), some (.int x5), some (.int x6)]) (st' := [.int 1, .int x2, .ref 6, .ref 83]) (w' := w) (g := []) (K := [(6, 3), (3, 6)]) (by decide +kernel) rfl rfl rfl rfl (jk1 (kz_6 hk) (jk1 (kz_3 hk) jk0)) ?_
  obtain ⟨q2, hq2, h⟩ := jbe h
  refine ev_callV (ci := 3) (a := 6) (y2 := y_Rows_at) (o := 1) (idx := 31) (d2 := d_Rows_at) (n := 2) (mc2 := 0) (ms2 := 0) (As := [.int x2, .int 1]) (st := [.ref 83]) (res2 := (some (.int q2.1), (jRx kk), q2.2)) (by decide +kernel) rfl lk_1_31 mo_Rows_at mv_Rows_at ⟨Nat.le_of_ble_eq_true rfl, Nat.le_of_ble_eq_true rfl⟩ rfl rfl (kz_6 hk) (by decide) rfl (Nat.le_of_ble_eq_true rfl) ⟨Nat.le_refl _, Nat.le_refl _⟩ hG (e_Rows_at hG hk (kz_6 hk) hq2) ?_
  obtain ⟨q3, hq3, h⟩ := jbe h
  refine ev_callV (ci := 1) (a := 83) (y2 := y_Knowing_spread) (o := 1) (idx := 59) (d2 := d_Knowing_spread) (n := 1) (mc2 := 0) (ms2 := 0) (As := [.int q2.1]) (st := []) (res2 := (none, (jRx kk), q3)) (by decide +kernel) rfl lk_1_59 mo_Knowing_spread mv_Knowing_spread ⟨Nat.le_of_ble_eq_true rfl, Nat.le_of_ble_eq_true rfl⟩ rfl rfl (kz_83 hk) (by decide) rfl (Nat.le_of_ble_eq_true rfl) ⟨Nat.le_refl _, Nat.le_refl _⟩ hG (e_Knowing_spread hG hk hq3) ?_
  refine ev_seg (o := 1) (nL := 7) (q := 86) (xs := [(.iload 5, 2, 5, 0, .null), (.iload 4, 2, 4, 0, .null)]) (L' := [some (.ref 83), some (.ref 3), some (.int x2), some (.int x3), some (.int x4), some (.int x5), some (.int x6)]) (st' := [.int x4, .int x5]) (w' := q3) (g := []) (K := []) (by decide +kernel) rfl rfl rfl rfl jk0 ?_
  refine ev_icmp_ge (off := 23) (tgt := 109) (by decide +kernel) (by decide) (fun c7 => ?_) (fun c7 => ?_)
  · replace h := jneg c7 h
    refine ev_mask [true, true, true, true, true, true, true] ?_
    exact t_Knowing_walk_j109 hG hk hk35 h
  · replace h := jpos c7 h
    refine ev_seg (o := 1) (nL := 7) (q := 96) (xs := [(.aload_n 0, 1, 0, 0, .null), (.aload_n 1, 1, 1, 0, .null), (.iload_n 2, 1, 2, 0, .null), (.iload 5, 2, 5, 0, .null), (.iconst 1, 1, 0, 0, .int 1), (.iadd, 1, 0, 0, .null)]) (L' := [some (.ref 83), some (.ref 3), some (.int x2), some (.int x3), some (.int x4), some (.int x5), some (.int x6)]) (st' := [.int (x5 + 1), .int x2, .ref 3, .ref 83]) (w' := q3) (g := []) (K := []) (by decide +kernel) rfl rfl rfl rfl jk0 ?_
    obtain ⟨q5, hq5, h⟩ := jbe h
    refine ev_callV (ci := 1) (a := 83) (y2 := y_Knowing_visitedOn) (o := 1) (idx := 63) (d2 := d_Knowing_visitedOn) (n := 3) (mc2 := 0) (ms2 := 0) (As := [.ref 3, .int x2, .int (x5 + 1)]) (st := []) (res2 := (none, (jRx kk), q5)) (by decide +kernel) rfl lk_1_63 mo_Knowing_visitedOn mv_Knowing_visitedOn ⟨Nat.le_of_ble_eq_true rfl, Nat.le_of_ble_eq_true rfl⟩ rfl rfl (kz_83 hk) (by decide) rfl (Nat.le_of_ble_eq_true rfl) ⟨Nat.le_refl _, Nat.le_refl _⟩ hG (e_Knowing_visitedOn hG hk hq5) ?_
    refine ev_seg (o := 1) (nL := 7) (q := 106) (xs := [(.aload_n 0, 1, 0, 0, .null), (.aload_n 1, 1, 1, 0, .null), (.iload_n 2, 1, 2, 0, .null), (.iload 5, 2, 5, 0, .null), (.iconst 1, 1, 0, 0, .int 1), (.iadd, 1, 0, 0, .null)]) (L' := [some (.ref 83), some (.ref 3), some (.int x2), some (.int x3), some (.int x4), some (.int x5), some (.int x6)]) (st' := [.int (x5 + 1), .int x2, .ref 3, .ref 83]) (w' := q5) (g := []) (K := []) (by decide +kernel) rfl rfl rfl rfl jk0 ?_
    obtain ⟨q6, hq6, h⟩ := jbe h
    refine ev_callV (ci := 1) (a := 83) (y2 := y_Knowing_picturedOn) (o := 1) (idx := 66) (d2 := d_Knowing_picturedOn) (n := 3) (mc2 := 0) (ms2 := 0) (As := [.ref 3, .int x2, .int (x5 + 1)]) (st := []) (res2 := (none, (jRx kk), q6)) (by decide +kernel) rfl lk_1_66 mo_Knowing_picturedOn mv_Knowing_picturedOn ⟨Nat.le_of_ble_eq_true rfl, Nat.le_of_ble_eq_true rfl⟩ rfl rfl (kz_83 hk) (by decide) rfl (Nat.le_of_ble_eq_true rfl) ⟨Nat.le_refl _, Nat.le_refl _⟩ hG (e_Knowing_picturedOn hG hk hq6) ?_
    refine ev_mask [true, true, true, true, true, true, true] ?_
    exact t_Knowing_walk_j109 hG hk hk35 h
def f_Knowing_walk_h35 : Nat → Int32 → Int32 → Int32 → Int32 → Int32 → jW → Option jW
  | 0, _, _, _, _, _, _ => none
  | n + 1, x2, x3, x4, x5, x6, w =>
  if x6 ≤ 1999 then
    if x5 ≤ x3 then
      Option.bind (f_Knowing_isQuiet x2 x5 x4 w) fun q1 =>
      if q1.1 = 0 then
        Option.bind (f_Knowing_comeAndGo x2 x5 q1.2) fun q8 =>
        f_Knowing_walk_j69 (f_Knowing_walk_h35 n) x2 x3 x4 x5 x6 q8
      else
        f_Knowing_walk_j69 (f_Knowing_walk_h35 n) x2 x3 x4 x5 x6 q1.2
    else
      some w
  else
    some w
set_option maxRecDepth 20000 in
theorem t_Knowing_walk_h35 {l : Launch} {G : jG} (hG : jX G) {kk : Nat} (hk : 93 ≤ kk) : ∀ (n : Nat) (x2 : Int32) (x3 : Int32) (x4 : Int32) (x5 : Int32) (x6 : Int32) (w : jW) (z : jW), f_Knowing_walk_h35 n x2 x3 x4 x5 x6 w = some z → Ev l G (jrm d_Knowing_walk 0 0) y_Knowing_walk (none, (jRx kk), z) 0 0 0 0 35 [some (.ref 83), some (.ref 3), some (.int x2), some (.int x3), some (.int x4), some (.int x5), some (.int x6)] [] (jRx kk) w := by
  intro n
  induction n with
  | zero => intro x2 x3 x4 x5 x6 w z h; simp only [f_Knowing_walk_h35] at h; cases h
  | succ n ih =>
    intro x2 x3 x4 x5 x6 w z h
    rw [f_Knowing_walk_h35] at h
    refine ev_seg (o := 1) (nL := 7) (q := 40) (xs := [(.iload 6, 2, 6, 0, .null), (.sipush 1999, 3, 0, 0, .int 1999)]) (L' := [some (.ref 83), some (.ref 3), some (.int x2), some (.int x3), some (.int x4), some (.int x5), some (.int x6)]) (st' := [.int 1999, .int x6]) (w' := w) (g := []) (K := []) (by decide +kernel) rfl rfl rfl rfl jk0 ?_
    refine ev_icmp_gt (off := 86) (tgt := 126) (by decide +kernel) (by decide) (fun c11 => ?_) (fun c11 => ?_)
    · replace h := jneg c11 h
      cases h
      exact ev_vret (by decide +kernel) rfl rfl rfl rfl
    · replace h := jpos c11 h
      refine ev_seg (o := 1) (nL := 7) (q := 46) (xs := [(.iload 5, 2, 5, 0, .null), (.iload_n 3, 1, 3, 0, .null)]) (L' := [some (.ref 83), some (.ref 3), some (.int x2), some (.int x3), some (.int x4), some (.int x5), some (.int x6)]) (st' := [.int x3, .int x5]) (w' := w) (g := []) (K := []) (by decide +kernel) rfl rfl rfl rfl jk0 ?_
      refine ev_icmp_gt (off := 80) (tgt := 126) (by decide +kernel) (by decide) (fun c10 => ?_) (fun c10 => ?_)
      · replace h := jneg c10 h
        cases h
        exact ev_vret (by decide +kernel) rfl rfl rfl rfl
      · replace h := jpos c10 h
        refine ev_seg (o := 1) (nL := 7) (q := 55) (xs := [(.aload_n 1, 1, 1, 0, .null), (.iload_n 2, 1, 2, 0, .null), (.iload 5, 2, 5, 0, .null), (.iload 4, 2, 4, 0, .null)]) (L' := [some (.ref 83), some (.ref 3), some (.int x2), some (.int x3), some (.int x4), some (.int x5), some (.int x6)]) (st' := [.int x4, .int x5, .int x2, .ref 3]) (w' := w) (g := []) (K := []) (by decide +kernel) rfl rfl rfl rfl jk0 ?_
        obtain ⟨q1, hq1, h⟩ := jbe h
        refine ev_callS (y2 := y_Knowing_isQuiet) (o := 1) (idx := 48) (d2 := d_Knowing_isQuiet) (n := 4) (mc2 := 0) (ms2 := 0) (As := [.ref 3, .int x2, .int x5, .int x4]) (st := []) (res2 := (some (.int q1.1), (jRx kk), q1.2)) (by decide +kernel) rfl lk_1_48 mo_Knowing_isQuiet ms_Knowing_isQuiet ⟨Nat.le_of_ble_eq_true rfl, Nat.le_of_ble_eq_true rfl⟩ rfl rfl (Nat.le_of_ble_eq_true rfl) ⟨Nat.le_refl _, Nat.le_refl _⟩ hG (e_Knowing_isQuiet hG hk hq1) ?_
        refine ev_if_ne (off := 11) (tgt := 69) (by decide +kernel) (by decide) (fun c9 => ?_) (fun c9 => ?_)
        · replace h := jneg c9 h
          refine ev_mask [true, true, true, true, true, true, true] ?_
          exact t_Knowing_walk_j69 hG hk ih h
        · replace h := jpos c9 h
          refine ev_seg (o := 1) (nL := 7) (q := 66) (xs := [(.aload_n 0, 1, 0, 0, .null), (.aload_n 1, 1, 1, 0, .null), (.iload_n 2, 1, 2, 0, .null), (.iload 5, 2, 5, 0, .null)]) (L' := [some (.ref 83), some (.ref 3), some (.int x2), some (.int x3), some (.int x4), some (.int x5), some (.int x6)]) (st' := [.int x5, .int x2, .ref 3, .ref 83]) (w' := q1.2) (g := []) (K := []) (by decide +kernel) rfl rfl rfl rfl jk0 ?_
          obtain ⟨q8, hq8, h⟩ := jbe h
          refine ev_callV (ci := 1) (a := 83) (y2 := y_Knowing_comeAndGo) (o := 1) (idx := 52) (d2 := d_Knowing_comeAndGo) (n := 3) (mc2 := 0) (ms2 := 0) (As := [.ref 3, .int x2, .int x5]) (st := []) (res2 := (none, (jRx kk), q8)) (by decide +kernel) rfl lk_1_52 mo_Knowing_comeAndGo mv_Knowing_comeAndGo ⟨Nat.le_of_ble_eq_true rfl, Nat.le_of_ble_eq_true rfl⟩ rfl rfl (kz_83 hk) (by decide) rfl (Nat.le_of_ble_eq_true rfl) ⟨Nat.le_refl _, Nat.le_refl _⟩ hG (e_Knowing_comeAndGo hG hk hq8) ?_
          refine ev_mask [true, true, true, true, true, true, true] ?_
          exact t_Knowing_walk_j69 hG hk ih h
def f_Knowing_walk_h3 : Nat → Int32 → Int32 → Int32 → Int32 → jW → Option jW
  | 0, _, _, _, _, _ => none
  | n + 1, x2, x3, x4, x5, w =>
  if x5 < (Int32.ofNat 4) then
    if jal [jin x5 4] = true then
    jlw (w.1, (jup w.2 84 (Int32.toNatClampNeg x5) 2199023255551)) fun w13 =>
    (f_Knowing_walk_h3 n) x2 x3 x4 (x5 + 1) w13
    else none
  else
    f_Knowing_walk_h35 jfu x2 x3 x4 0 0 w
set_option maxRecDepth 20000 in
theorem t_Knowing_walk_h3 {l : Launch} {G : jG} (hG : jX G) {kk : Nat} (hk : 93 ≤ kk) : ∀ (n : Nat) (x2 : Int32) (x3 : Int32) (x4 : Int32) (x5 : Int32) (w : jW) (z : jW), f_Knowing_walk_h3 n x2 x3 x4 x5 w = some z → Ev l G (jrm d_Knowing_walk 0 0) y_Knowing_walk (none, (jRx kk), z) 0 0 0 0 3 [some (.ref 83), some (.ref 3), some (.int x2), some (.int x3), some (.int x4), some (.int x5), none] [] (jRx kk) w := by
  intro n
  induction n with
  | zero => intro x2 x3 x4 x5 w z h; simp only [f_Knowing_walk_h3] at h; cases h
  | succ n ih =>
    intro x2 x3 x4 x5 w z h
    rw [f_Knowing_walk_h3] at h
    refine ev_seg (o := 1) (nL := 7) (q := 10) (xs := [(.iload 5, 2, 5, 0, .null), (.aload_n 0, 1, 0, 0, .null), (.getfield 9, 3, 1, 0, .ref 22), (.arraylength, 1, 22, 0, .null)]) (L' := [some (.ref 83), some (.ref 3), some (.int x2), some (.int x3), some (.int x4), some (.int x5), none]) (st' := [.int (Int32.ofNat 4), .int x5]) (w' := w) (g := []) (K := [(84, 22), (84, 22), (83, 1)]) (by decide +kernel) rfl rfl rfl rfl (jk1 (kz_84 hk) (jk1 (kz_84 hk) (jk1 (kz_83 hk) jk0))) ?_
    refine ev_icmp_ge (off := 19) (tgt := 29) (by decide +kernel) (by decide) (fun c14 => ?_) (fun c14 => ?_)
    · replace h := jneg c14 h
      refine ev_seg (o := 1) (nL := 7) (q := 35) (xs := [(.iconst 0, 1, 0, 0, .int 0), (.istore 5, 2, 5, 0, .null), (.iconst 0, 1, 0, 0, .int 0), (.istore 6, 2, 6, 0, .null)]) (L' := [some (.ref 83), some (.ref 3), some (.int x2), some (.int x3), some (.int x4), some (.int 0), some (.int 0)]) (st' := []) (w' := w) (g := []) (K := []) (by decide +kernel) rfl rfl rfl rfl jk0 ?_
      refine ev_mask [true, true, true, true, true, true, true] ?_
      exact t_Knowing_walk_h35 hG hk jfu _ _ _ _ _ _ _ h
    · replace h := jpos c14 h
      obtain ⟨hg12, h⟩ := jgd h
      refine ev_seg (o := 1) (nL := 7) (q := 23) (xs := [(.aload_n 0, 1, 0, 0, .null), (.getfield 9, 3, 1, 0, .ref 22), (.iload 5, 2, 5, 0, .null), (.ldc2_w 46, 3, 0, 0, .long 2199023255551), (.lastore, 1, 0, 0, .null)]) (L' := [some (.ref 83), some (.ref 3), some (.int x2), some (.int x3), some (.int x4), some (.int x5), none]) (st' := []) (w' := (w.1, (jup w.2 84 (Int32.toNatClampNeg x5) 2199023255551))) (g := [jin x5 4]) (K := [(84, 22), (84, 22), (83, 1)]) (by decide +kernel) rfl rfl rfl hg12 (jk1 (kz_84 hk) (jk1 (kz_84 hk) (jk1 (kz_83 hk) jk0))) ?_
      refine jlw_c (P := fun w13 => Ev l G (jrm d_Knowing_walk 0 0) y_Knowing_walk (none, (jRx kk), z) 0 0 0 0 23 [some (.ref 83), some (.ref 3), some (.int x2), some (.int x3), some (.int x4), some (.int x5), none] [] (jRx kk) w13) h fun w13 h => ?_
      refine ev_seg (o := 1) (nL := 7) (q := 3) (xs := [(.iinc 5 1, 3, 5, 0, .int 1), (.goto (-23), 3, 0, 0, .null)]) (L' := [some (.ref 83), some (.ref 3), some (.int x2), some (.int x3), some (.int x4), some (.int (x5 + 1)), none]) (st' := []) (w' := w13) (g := []) (K := []) (by decide +kernel) rfl rfl rfl rfl jk0 ?_
      refine ev_mask [true, true, true, true, true, true, false] ?_
      exact ih _ _ _ _ _ _ h
def f_Knowing_walk (x2 : Int32) (x3 : Int32) (x4 : Int32) (w : jW) : Option jW :=
  f_Knowing_walk_h3 jfu x2 x3 x4 0 w
set_option maxRecDepth 20000 in
theorem e_Knowing_walk {l : Launch} {G : jG} (hG : jX G) {kk : Nat} (hk : 93 ≤ kk) {x2 : Int32} {x3 : Int32} {x4 : Int32} {w : jW} {z : jW} (h : f_Knowing_walk x2 x3 x4 w = some z) : Ct l G y_Knowing_walk d_Knowing_walk 0 0 [.ref 83, .ref 3, .int x2, .int x3, .int x4] (jRx kk) w (none, (jRx kk), z) := by
  rw [f_Knowing_walk] at h
  refine Ct.of (L := [some (.ref 83), some (.ref 3), some (.int x2), some (.int x3), some (.int x4), none, none]) (by decide) (Nat.le_of_ble_eq_true rfl) rfl ?_
  refine ev_seg (o := 1) (nL := 7) (q := 3) (xs := [(.iconst 0, 1, 0, 0, .int 0), (.istore 5, 2, 5, 0, .null)]) (L' := [some (.ref 83), some (.ref 3), some (.int x2), some (.int x3), some (.int x4), some (.int 0), none]) (st' := []) (w' := w) (g := []) (K := []) (by decide +kernel) rfl rfl rfl rfl jk0 ?_
  refine ev_mask [true, true, true, true, true, true, false] ?_
  exact t_Knowing_walk_h3 hG hk jfu _ _ _ _ _ _ h
def f_Count_possible (x1 : Int32) (x2 : Int32) (x3 : Int32) (x4 : Int32) (x5 : Int32) (w : jW) : Option (Int32 × jW) :=
  Option.bind (f_Count_isKnowable x1 x2 x3 x4 w) fun q1 =>
  if q1.1 = 0 then
    some ((-1), q1.2)
  else
    Option.bind (f_Knowing_walk x1 x3 x4 q1.2) fun q2 =>
    if x5 = 0 then
      Option.bind (f_Knowing_least x2 q2) fun q3 =>
      some (q3.1, q3.2)
    else
      Option.bind (f_Knowing_greatest x2 q2) fun q4 =>
      some (q4.1, q4.2)
set_option maxRecDepth 20000 in
theorem e_Count_possible {l : Launch} {G : jG} (hG : jX G) {kk : Nat} (hk : 93 ≤ kk) {x1 : Int32} {x2 : Int32} {x3 : Int32} {x4 : Int32} {x5 : Int32} {w : jW} {z : (Int32 × jW)} (h : f_Count_possible x1 x2 x3 x4 x5 w = some z) : Ct l G y_Count_possible d_Count_possible 0 0 [.ref 2, .int x1, .int x2, .int x3, .int x4, .int x5] (jRx kk) w (some (.int z.1), (jRx kk), z.2) := by
  rw [f_Count_possible] at h
  refine Ct.of (L := [some (.ref 2), some (.int x1), some (.int x2), some (.int x3), some (.int x4), some (.int x5)]) (by decide) (Nat.le_of_ble_eq_true rfl) rfl ?_
  refine ev_seg (o := 9) (nL := 6) (q := 6) (xs := [(.aload_n 0, 1, 0, 0, .null), (.iload_n 1, 1, 1, 0, .null), (.iload_n 2, 1, 2, 0, .null), (.iload_n 3, 1, 3, 0, .null), (.iload 4, 2, 4, 0, .null)]) (L' := [some (.ref 2), some (.int x1), some (.int x2), some (.int x3), some (.int x4), some (.int x5)]) (st' := [.int x4, .int x3, .int x2, .int x1, .ref 2]) (w' := w) (g := []) (K := []) (by decide +kernel) rfl rfl rfl rfl jk0 ?_
  obtain ⟨q1, hq1, h⟩ := jbe h
  refine ev_callV (ci := 9) (a := 2) (y2 := y_Count_isKnowable) (o := 9) (idx := 243) (d2 := d_Count_isKnowable) (n := 4) (mc2 := 0) (ms2 := 0) (As := [.int x1, .int x2, .int x3, .int x4]) (st := []) (res2 := (some (.int q1.1), (jRx kk), q1.2)) (by decide +kernel) rfl lk_9_243 mo_Count_isKnowable mv_Count_isKnowable ⟨Nat.le_of_ble_eq_true rfl, Nat.le_of_ble_eq_true rfl⟩ rfl rfl (kz_2 hk) (by decide) rfl (Nat.le_of_ble_eq_true rfl) ⟨Nat.le_refl _, Nat.le_refl _⟩ hG (e_Count_isKnowable hG hk hq1) ?_
  refine ev_if_ne (off := 5) (tgt := 14) (by decide +kernel) (by decide) (fun c6 => ?_) (fun c6 => ?_)
  · replace h := jneg c6 h
    refine ev_seg (o := 9) (nL := 6) (q := 26) (xs := [(.aload_n 0, 1, 0, 0, .null), (.getfield 29, 3, 9, 3, .ref 1), (.aload_n 0, 1, 0, 0, .null), (.getfield 12, 3, 9, 0, .ref 6), (.iload_n 1, 1, 1, 0, .null), (.iload_n 3, 1, 3, 0, .null), (.iload 4, 2, 4, 0, .null)]) (L' := [some (.ref 2), some (.int x1), some (.int x2), some (.int x3), some (.int x4), some (.int x5)]) (st' := [.int x4, .int x3, .int x1, .ref 3, .ref 83]) (w' := q1.2) (g := []) (K := [(3, 6), (2, 9), (83, 1), (2, 9)]) (by decide +kernel) rfl rfl rfl rfl (jk1 (kz_3 hk) (jk1 (kz_2 hk) (jk1 (kz_83 hk) (jk1 (kz_2 hk) jk0)))) ?_
    obtain ⟨q2, hq2, h⟩ := jbe h
    refine ev_callV (ci := 1) (a := 83) (y2 := y_Knowing_walk) (o := 9) (idx := 247) (d2 := d_Knowing_walk) (n := 4) (mc2 := 0) (ms2 := 0) (As := [.ref 3, .int x1, .int x3, .int x4]) (st := []) (res2 := (none, (jRx kk), q2)) (by decide +kernel) rfl lk_9_247 mo_Knowing_walk mv_Knowing_walk ⟨Nat.le_of_ble_eq_true rfl, Nat.le_of_ble_eq_true rfl⟩ rfl rfl (kz_83 hk) (by decide) rfl (Nat.le_of_ble_eq_true rfl) ⟨Nat.le_refl _, Nat.le_refl _⟩ hG (e_Knowing_walk hG hk hq2) ?_
    refine ev_seg (o := 9) (nL := 6) (q := 31) (xs := [(.iload 5, 2, 5, 0, .null)]) (L' := [some (.ref 2), some (.int x1), some (.int x2), some (.int x3), some (.int x4), some (.int x5)]) (st' := [.int x5]) (w' := q2) (g := []) (K := []) (by decide +kernel) rfl rfl rfl rfl jk0 ?_
    refine ev_if_eq (off := 14) (tgt := 45) (by decide +kernel) (by decide) (fun c5 => ?_) (fun c5 => ?_)
    · replace h := jpos c5 h
      refine ev_seg (o := 9) (nL := 6) (q := 50) (xs := [(.aload_n 0, 1, 0, 0, .null), (.getfield 29, 3, 9, 3, .ref 1), (.iload_n 2, 1, 2, 0, .null)]) (L' := [some (.ref 2), some (.int x1), some (.int x2), some (.int x3), some (.int x4), some (.int x5)]) (st' := [.int x2, .ref 83]) (w' := q2) (g := []) (K := [(83, 1), (2, 9)]) (by decide +kernel) rfl rfl rfl rfl (jk1 (kz_83 hk) (jk1 (kz_2 hk) jk0)) ?_
      obtain ⟨q3, hq3, h⟩ := jbe h
      refine ev_callV (ci := 1) (a := 83) (y2 := y_Knowing_least) (o := 9) (idx := 254) (d2 := d_Knowing_least) (n := 1) (mc2 := 0) (ms2 := 0) (As := [.int x2]) (st := []) (res2 := (some (.int q3.1), (jRx kk), q3.2)) (by decide +kernel) rfl lk_9_254 mo_Knowing_least mv_Knowing_least ⟨Nat.le_of_ble_eq_true rfl, Nat.le_of_ble_eq_true rfl⟩ rfl rfl (kz_83 hk) (by decide) rfl (Nat.le_of_ble_eq_true rfl) ⟨Nat.le_refl _, Nat.le_refl _⟩ hG (e_Knowing_least hG hk hq3) ?_
      cases h
      exact ev_iret (by decide +kernel) rfl rfl rfl rfl
    · replace h := jneg c5 h
      refine ev_seg (o := 9) (nL := 6) (q := 39) (xs := [(.aload_n 0, 1, 0, 0, .null), (.getfield 29, 3, 9, 3, .ref 1), (.iload_n 2, 1, 2, 0, .null)]) (L' := [some (.ref 2), some (.int x1), some (.int x2), some (.int x3), some (.int x4), some (.int x5)]) (st' := [.int x2, .ref 83]) (w' := q2) (g := []) (K := [(83, 1), (2, 9)]) (by decide +kernel) rfl rfl rfl rfl (jk1 (kz_83 hk) (jk1 (kz_2 hk) jk0)) ?_
      obtain ⟨q4, hq4, h⟩ := jbe h
      refine ev_callV (ci := 1) (a := 83) (y2 := y_Knowing_greatest) (o := 9) (idx := 251) (d2 := d_Knowing_greatest) (n := 1) (mc2 := 0) (ms2 := 0) (As := [.int x2]) (st := []) (res2 := (some (.int q4.1), (jRx kk), q4.2)) (by decide +kernel) rfl lk_9_251 mo_Knowing_greatest mv_Knowing_greatest ⟨Nat.le_of_ble_eq_true rfl, Nat.le_of_ble_eq_true rfl⟩ rfl rfl (kz_83 hk) (by decide) rfl (Nat.le_of_ble_eq_true rfl) ⟨Nat.le_refl _, Nat.le_refl _⟩ hG (e_Knowing_greatest hG hk hq4) ?_
      refine ev_seg (o := 9) (nL := 6) (q := 53) (xs := [(.goto 11, 3, 0, 0, .null)]) (L' := [some (.ref 2), some (.int x1), some (.int x2), some (.int x3), some (.int x4), some (.int x5)]) (st' := [.int q4.1]) (w' := q4.2) (g := []) (K := []) (by decide +kernel) rfl rfl rfl rfl jk0 ?_
      cases h
      exact ev_iret (by decide +kernel) rfl rfl rfl rfl
  · replace h := jpos c6 h
    refine ev_seg (o := 9) (nL := 6) (q := 13) (xs := [(.iconst (-1), 1, 0, 0, .int (-1))]) (L' := [some (.ref 2), some (.int x1), some (.int x2), some (.int x3), some (.int x4), some (.int x5)]) (st' := [.int (-1)]) (w' := q1.2) (g := []) (K := []) (by decide +kernel) rfl rfl rfl rfl jk0 ?_
    cases h
    exact ev_iret (by decide +kernel) rfl rfl rfl rfl
def f_Knowing_hear_h30 : Nat → Int32 → Int32 → Int32 → jW → Option jW
  | 0, _, _, _, _ => none
  | n + 1, x2, x3, x4, w =>
  Option.bind (f_Rows_count 24 w) fun q1 =>
  if x4 < q1.1 then
    Option.bind (f_Rows_at 24 x4 0 q1.2) fun q2 =>
    Option.bind (f_Rows_at 24 x4 2 q2.2) fun q3 =>
    if q2.1 < 0 then
      (f_Knowing_hear_h30 n) x2 x3 (x4 + 1) q3.2
    else
      if q2.1 < (Int32.ofNat 40) then
        if q3.1 ≤ x2 then
          Option.bind (f_Rows_at 24 x4 3 q3.2) fun q4 =>
          if q4.1 ≤ x3 then
            if jal [jin q2.1 40] = true then
            Option.bind (f_Rows_at 24 (q4.2.1 85 (Int32.toNatClampNeg q2.1)) 2 q4.2) fun q6 =>
            if q3.1 < q6.1 then
              (f_Knowing_hear_h30 n) x2 x3 (x4 + 1) q6.2
            else
              if jal [jin q2.1 40] = true then
              jlw ((jup q6.2.1 85 (Int32.toNatClampNeg q2.1) x4), q6.2.2) fun w8 =>
              (f_Knowing_hear_h30 n) x2 x3 (x4 + 1) w8
              else none
            else none
          else
            (f_Knowing_hear_h30 n) x2 x3 (x4 + 1) q4.2
        else
          (f_Knowing_hear_h30 n) x2 x3 (x4 + 1) q3.2
      else
        (f_Knowing_hear_h30 n) x2 x3 (x4 + 1) q3.2
  else
    some q1.2
set_option maxRecDepth 20000 in
theorem t_Knowing_hear_h30 {l : Launch} {G : jG} (hG : jX G) {kk : Nat} (hk : 93 ≤ kk) : ∀ (n : Nat) (x2 : Int32) (x3 : Int32) (x4 : Int32) (w : jW) (z : jW), f_Knowing_hear_h30 n x2 x3 x4 w = some z → Ev l G (jrm d_Knowing_hear 0 0) y_Knowing_hear (none, (jRx kk), z) 0 0 0 0 30 [some (.ref 83), some (.ref 3), some (.int x2), some (.int x3), some (.int x4), none, none] [] (jRx kk) w := by
  intro n
  induction n with
  | zero => intro x2 x3 x4 w z h; simp only [f_Knowing_hear_h30] at h; cases h
  | succ n ih =>
    intro x2 x3 x4 w z h
    rw [f_Knowing_hear_h30] at h
    refine ev_seg (o := 1) (nL := 7) (q := 36) (xs := [(.iload 4, 2, 4, 0, .null), (.aload_n 1, 1, 1, 0, .null), (.getfield 19, 3, 6, 12, .ref 3)]) (L' := [some (.ref 83), some (.ref 3), some (.int x2), some (.int x3), some (.int x4), none, none]) (st' := [.ref 24, .int x4]) (w' := w) (g := []) (K := [(24, 3), (3, 6)]) (by decide +kernel) rfl rfl rfl rfl (jk1 (kz_24 hk) (jk1 (kz_3 hk) jk0)) ?_
    obtain ⟨q1, hq1, h⟩ := jbe h
    refine ev_callV (ci := 3) (a := 24) (y2 := y_Rows_count) (o := 1) (idx := 25) (d2 := d_Rows_count) (n := 0) (mc2 := 0) (ms2 := 0) (As := []) (st := [.int x4]) (res2 := (some (.int q1.1), (jRx kk), q1.2)) (by decide +kernel) rfl lk_1_25 mo_Rows_count mv_Rows_count ⟨Nat.le_of_ble_eq_true rfl, Nat.le_of_ble_eq_true rfl⟩ rfl rfl (kz_24 hk) (by decide) rfl (Nat.le_of_ble_eq_true rfl) ⟨Nat.le_refl _, Nat.le_refl _⟩ hG (e_Rows_count hG hk (kz_24 hk) hq1) ?_
    refine ev_icmp_ge (off := 97) (tgt := 136) (by decide +kernel) (by decide) (fun c14 => ?_) (fun c14 => ?_)
    · replace h := jneg c14 h
      cases h
      exact ev_vret (by decide +kernel) rfl rfl rfl rfl
    · replace h := jpos c14 h
      refine ev_seg (o := 1) (nL := 7) (q := 49) (xs := [(.aload_n 1, 1, 1, 0, .null), (.getfield 19, 3, 6, 12, .ref 3), (.iload 4, 2, 4, 0, .null), (.iconst 0, 1, 0, 0, .int 0)]) (L' := [some (.ref 83), some (.ref 3), some (.int x2), some (.int x3), some (.int x4), none, none]) (st' := [.int 0, .int x4, .ref 24]) (w' := q1.2) (g := []) (K := [(24, 3), (3, 6)]) (by decide +kernel) rfl rfl rfl rfl (jk1 (kz_24 hk) (jk1 (kz_3 hk) jk0)) ?_
      obtain ⟨q2, hq2, h⟩ := jbe h
      refine ev_callV (ci := 3) (a := 24) (y2 := y_Rows_at) (o := 1) (idx := 31) (d2 := d_Rows_at) (n := 2) (mc2 := 0) (ms2 := 0) (As := [.int x4, .int 0]) (st := []) (res2 := (some (.int q2.1), (jRx kk), q2.2)) (by decide +kernel) rfl lk_1_31 mo_Rows_at mv_Rows_at ⟨Nat.le_of_ble_eq_true rfl, Nat.le_of_ble_eq_true rfl⟩ rfl rfl (kz_24 hk) (by decide) rfl (Nat.le_of_ble_eq_true rfl) ⟨Nat.le_refl _, Nat.le_refl _⟩ hG (e_Rows_at hG hk (kz_24 hk) hq2) ?_
      refine ev_seg (o := 1) (nL := 7) (q := 61) (xs := [(.istore 5, 2, 5, 0, .null), (.aload_n 1, 1, 1, 0, .null), (.getfield 19, 3, 6, 12, .ref 3), (.iload 4, 2, 4, 0, .null), (.iconst 2, 1, 0, 0, .int 2)]) (L' := [some (.ref 83), some (.ref 3), some (.int x2), some (.int x3), some (.int x4), some (.int q2.1), none]) (st' := [.int 2, .int x4, .ref 24]) (w' := q2.2) (g := []) (K := [(24, 3), (3, 6)]) (by decide +kernel) rfl rfl rfl rfl (jk1 (kz_24 hk) (jk1 (kz_3 hk) jk0)) ?_
      obtain ⟨q3, hq3, h⟩ := jbe h
      refine ev_callV (ci := 3) (a := 24) (y2 := y_Rows_at) (o := 1) (idx := 31) (d2 := d_Rows_at) (n := 2) (mc2 := 0) (ms2 := 0) (As := [.int x4, .int 2]) (st := []) (res2 := (some (.int q3.1), (jRx kk), q3.2)) (by decide +kernel) rfl lk_1_31 mo_Rows_at mv_Rows_at ⟨Nat.le_of_ble_eq_true rfl, Nat.le_of_ble_eq_true rfl⟩ rfl rfl (kz_24 hk) (by decide) rfl (Nat.le_of_ble_eq_true rfl) ⟨Nat.le_refl _, Nat.le_refl _⟩ hG (e_Rows_at hG hk (kz_24 hk) hq3) ?_
      refine ev_seg (o := 1) (nL := 7) (q := 68) (xs := [(.istore 6, 2, 6, 0, .null), (.iload 5, 2, 5, 0, .null)]) (L' := [some (.ref 83), some (.ref 3), some (.int x2), some (.int x3), some (.int x4), some (.int q2.1), some (.int q3.1)]) (st' := [.int q2.1]) (w' := q3.2) (g := []) (K := []) (by decide +kernel) rfl rfl rfl rfl jk0 ?_
      refine ev_if_lt (off := 62) (tgt := 130) (by decide +kernel) (by decide) (fun c13 => ?_) (fun c13 => ?_)
      · replace h := jpos c13 h
        refine ev_seg (o := 1) (nL := 7) (q := 30) (xs := [(.iinc 4 1, 3, 4, 0, .int 1), (.goto (-103), 3, 0, 0, .null)]) (L' := [some (.ref 83), some (.ref 3), some (.int x2), some (.int x3), some (.int (x4 + 1)), some (.int q2.1), some (.int q3.1)]) (st' := []) (w' := q3.2) (g := []) (K := []) (by decide +kernel) rfl rfl rfl rfl jk0 ?_
        refine ev_mask [true, true, true, true, true, false, false] ?_
        exact ih _ _ _ _ _ h
      · replace h := jneg c13 h
        refine ev_seg (o := 1) (nL := 7) (q := 78) (xs := [(.iload 5, 2, 5, 0, .null), (.aload_n 0, 1, 0, 0, .null), (.getfield 15, 3, 1, 1, .ref 20), (.arraylength, 1, 20, 0, .null)]) (L' := [some (.ref 83), some (.ref 3), some (.int x2), some (.int x3), some (.int x4), some (.int q2.1), some (.int q3.1)]) (st' := [.int (Int32.ofNat 40), .int q2.1]) (w' := q3.2) (g := []) (K := [(85, 20), (85, 20), (83, 1)]) (by decide +kernel) rfl rfl rfl rfl (jk1 (kz_85 hk) (jk1 (kz_85 hk) (jk1 (kz_83 hk) jk0))) ?_
        refine ev_icmp_ge (off := 52) (tgt := 130) (by decide +kernel) (by decide) (fun c12 => ?_) (fun c12 => ?_)
        · replace h := jneg c12 h
          refine ev_seg (o := 1) (nL := 7) (q := 30) (xs := [(.iinc 4 1, 3, 4, 0, .int 1), (.goto (-103), 3, 0, 0, .null)]) (L' := [some (.ref 83), some (.ref 3), some (.int x2), some (.int x3), some (.int (x4 + 1)), some (.int q2.1), some (.int q3.1)]) (st' := []) (w' := q3.2) (g := []) (K := []) (by decide +kernel) rfl rfl rfl rfl jk0 ?_
          refine ev_mask [true, true, true, true, true, false, false] ?_
          exact ih _ _ _ _ _ h
        · replace h := jpos c12 h
          refine ev_seg (o := 1) (nL := 7) (q := 84) (xs := [(.iload 6, 2, 6, 0, .null), (.iload_n 2, 1, 2, 0, .null)]) (L' := [some (.ref 83), some (.ref 3), some (.int x2), some (.int x3), some (.int x4), some (.int q2.1), some (.int q3.1)]) (st' := [.int x2, .int q3.1]) (w' := q3.2) (g := []) (K := []) (by decide +kernel) rfl rfl rfl rfl jk0 ?_
          refine ev_icmp_gt (off := 46) (tgt := 130) (by decide +kernel) (by decide) (fun c11 => ?_) (fun c11 => ?_)
          · replace h := jneg c11 h
            refine ev_seg (o := 1) (nL := 7) (q := 30) (xs := [(.iinc 4 1, 3, 4, 0, .int 1), (.goto (-103), 3, 0, 0, .null)]) (L' := [some (.ref 83), some (.ref 3), some (.int x2), some (.int x3), some (.int (x4 + 1)), some (.int q2.1), some (.int q3.1)]) (st' := []) (w' := q3.2) (g := []) (K := []) (by decide +kernel) rfl rfl rfl rfl jk0 ?_
            refine ev_mask [true, true, true, true, true, false, false] ?_
            exact ih _ _ _ _ _ h
          · replace h := jpos c11 h
            refine ev_seg (o := 1) (nL := 7) (q := 94) (xs := [(.aload_n 1, 1, 1, 0, .null), (.getfield 19, 3, 6, 12, .ref 3), (.iload 4, 2, 4, 0, .null), (.iconst 3, 1, 0, 0, .int 3)]) (L' := [some (.ref 83), some (.ref 3), some (.int x2), some (.int x3), some (.int x4), some (.int q2.1), some (.int q3.1)]) (st' := [.int 3, .int x4, .ref 24]) (w' := q3.2) (g := []) (K := [(24, 3), (3, 6)]) (by decide +kernel) rfl rfl rfl rfl (jk1 (kz_24 hk) (jk1 (kz_3 hk) jk0)) ?_
            obtain ⟨q4, hq4, h⟩ := jbe h
            refine ev_callV (ci := 3) (a := 24) (y2 := y_Rows_at) (o := 1) (idx := 31) (d2 := d_Rows_at) (n := 2) (mc2 := 0) (ms2 := 0) (As := [.int x4, .int 3]) (st := []) (res2 := (some (.int q4.1), (jRx kk), q4.2)) (by decide +kernel) rfl lk_1_31 mo_Rows_at mv_Rows_at ⟨Nat.le_of_ble_eq_true rfl, Nat.le_of_ble_eq_true rfl⟩ rfl rfl (kz_24 hk) (by decide) rfl (Nat.le_of_ble_eq_true rfl) ⟨Nat.le_refl _, Nat.le_refl _⟩ hG (e_Rows_at hG hk (kz_24 hk) hq4) ?_
            refine ev_seg (o := 1) (nL := 7) (q := 98) (xs := [(.iload_n 3, 1, 3, 0, .null)]) (L' := [some (.ref 83), some (.ref 3), some (.int x2), some (.int x3), some (.int x4), some (.int q2.1), some (.int q3.1)]) (st' := [.int x3, .int q4.1]) (w' := q4.2) (g := []) (K := []) (by decide +kernel) rfl rfl rfl rfl jk0 ?_
            refine ev_icmp_gt (off := 32) (tgt := 130) (by decide +kernel) (by decide) (fun c10 => ?_) (fun c10 => ?_)
            · replace h := jneg c10 h
              refine ev_seg (o := 1) (nL := 7) (q := 30) (xs := [(.iinc 4 1, 3, 4, 0, .int 1), (.goto (-103), 3, 0, 0, .null)]) (L' := [some (.ref 83), some (.ref 3), some (.int x2), some (.int x3), some (.int (x4 + 1)), some (.int q2.1), some (.int q3.1)]) (st' := []) (w' := q4.2) (g := []) (K := []) (by decide +kernel) rfl rfl rfl rfl jk0 ?_
              refine ev_mask [true, true, true, true, true, false, false] ?_
              exact ih _ _ _ _ _ h
            · replace h := jpos c10 h
              obtain ⟨hg5, h⟩ := jgd h
              refine ev_seg (o := 1) (nL := 7) (q := 115) (xs := [(.iload 6, 2, 6, 0, .null), (.aload_n 1, 1, 1, 0, .null), (.getfield 19, 3, 6, 12, .ref 3), (.aload_n 0, 1, 0, 0, .null), (.getfield 15, 3, 1, 1, .ref 20), (.iload 5, 2, 5, 0, .null), (.iaload, 1, 0, 0, .null), (.iconst 2, 1, 0, 0, .int 2)]) (L' := [some (.ref 83), some (.ref 3), some (.int x2), some (.int x3), some (.int x4), some (.int q2.1), some (.int q3.1)]) (st' := [.int 2, .int (q4.2.1 85 (Int32.toNatClampNeg q2.1)), .ref 24, .int q3.1]) (w' := q4.2) (g := [jin q2.1 40]) (K := [(85, 20), (85, 20), (83, 1), (24, 3), (3, 6)]) (by decide +kernel) rfl rfl rfl hg5 (jk1 (kz_85 hk) (jk1 (kz_85 hk) (jk1 (kz_83 hk) (jk1 (kz_24 hk) (jk1 (kz_3 hk) jk0))))) ?_
              obtain ⟨q6, hq6, h⟩ := jbe h
              refine ev_callV (ci := 3) (a := 24) (y2 := y_Rows_at) (o := 1) (idx := 31) (d2 := d_Rows_at) (n := 2) (mc2 := 0) (ms2 := 0) (As := [.int (q4.2.1 85 (Int32.toNatClampNeg q2.1)), .int 2]) (st := [.int q3.1]) (res2 := (some (.int q6.1), (jRx kk), q6.2)) (by decide +kernel) rfl lk_1_31 mo_Rows_at mv_Rows_at ⟨Nat.le_of_ble_eq_true rfl, Nat.le_of_ble_eq_true rfl⟩ rfl rfl (kz_24 hk) (by decide) rfl (Nat.le_of_ble_eq_true rfl) ⟨Nat.le_refl _, Nat.le_refl _⟩ hG (e_Rows_at hG hk (kz_24 hk) hq6) ?_
              refine ev_icmp_lt (off := 12) (tgt := 130) (by decide +kernel) (by decide) (fun c9 => ?_) (fun c9 => ?_)
              · replace h := jpos c9 h
                refine ev_seg (o := 1) (nL := 7) (q := 30) (xs := [(.iinc 4 1, 3, 4, 0, .int 1), (.goto (-103), 3, 0, 0, .null)]) (L' := [some (.ref 83), some (.ref 3), some (.int x2), some (.int x3), some (.int (x4 + 1)), some (.int q2.1), some (.int q3.1)]) (st' := []) (w' := q6.2) (g := []) (K := []) (by decide +kernel) rfl rfl rfl rfl jk0 ?_
                refine ev_mask [true, true, true, true, true, false, false] ?_
                exact ih _ _ _ _ _ h
              · replace h := jneg c9 h
                obtain ⟨hg7, h⟩ := jgd h
                refine ev_seg (o := 1) (nL := 7) (q := 130) (xs := [(.aload_n 0, 1, 0, 0, .null), (.getfield 15, 3, 1, 1, .ref 20), (.iload 5, 2, 5, 0, .null), (.iload 4, 2, 4, 0, .null), (.iastore, 1, 0, 0, .null)]) (L' := [some (.ref 83), some (.ref 3), some (.int x2), some (.int x3), some (.int x4), some (.int q2.1), some (.int q3.1)]) (st' := []) (w' := ((jup q6.2.1 85 (Int32.toNatClampNeg q2.1) x4), q6.2.2)) (g := [jin q2.1 40]) (K := [(85, 20), (85, 20), (83, 1)]) (by decide +kernel) rfl rfl rfl hg7 (jk1 (kz_85 hk) (jk1 (kz_85 hk) (jk1 (kz_83 hk) jk0))) ?_
                refine jlw_c (P := fun w8 => Ev l G (jrm d_Knowing_hear 0 0) y_Knowing_hear (none, (jRx kk), z) 0 0 0 0 130 [some (.ref 83), some (.ref 3), some (.int x2), some (.int x3), some (.int x4), some (.int q2.1), some (.int q3.1)] [] (jRx kk) w8) h fun w8 h => ?_
                refine ev_seg (o := 1) (nL := 7) (q := 30) (xs := [(.iinc 4 1, 3, 4, 0, .int 1), (.goto (-103), 3, 0, 0, .null)]) (L' := [some (.ref 83), some (.ref 3), some (.int x2), some (.int x3), some (.int (x4 + 1)), some (.int q2.1), some (.int q3.1)]) (st' := []) (w' := w8) (g := []) (K := []) (by decide +kernel) rfl rfl rfl rfl jk0 ?_
                refine ev_mask [true, true, true, true, true, false, false] ?_
                exact ih _ _ _ _ _ h
def f_Knowing_hear_h3 : Nat → Int32 → Int32 → Int32 → jW → Option jW
  | 0, _, _, _, _ => none
  | n + 1, x2, x3, x4, w =>
  if x4 < (Int32.ofNat 40) then
    if jal [jin x4 40] = true then
    jlw ((jup w.1 85 (Int32.toNatClampNeg x4) (-1)), w.2) fun w16 =>
    (f_Knowing_hear_h3 n) x2 x3 (x4 + 1) w16
    else none
  else
    f_Knowing_hear_h30 jfu x2 x3 0 w
set_option maxRecDepth 20000 in
theorem t_Knowing_hear_h3 {l : Launch} {G : jG} (hG : jX G) {kk : Nat} (hk : 93 ≤ kk) : ∀ (n : Nat) (x2 : Int32) (x3 : Int32) (x4 : Int32) (w : jW) (z : jW), f_Knowing_hear_h3 n x2 x3 x4 w = some z → Ev l G (jrm d_Knowing_hear 0 0) y_Knowing_hear (none, (jRx kk), z) 0 0 0 0 3 [some (.ref 83), some (.ref 3), some (.int x2), some (.int x3), some (.int x4), none, none] [] (jRx kk) w := by
  intro n
  induction n with
  | zero => intro x2 x3 x4 w z h; simp only [f_Knowing_hear_h3] at h; cases h
  | succ n ih =>
    intro x2 x3 x4 w z h
    rw [f_Knowing_hear_h3] at h
    refine ev_seg (o := 1) (nL := 7) (q := 10) (xs := [(.iload 4, 2, 4, 0, .null), (.aload_n 0, 1, 0, 0, .null), (.getfield 15, 3, 1, 1, .ref 20), (.arraylength, 1, 20, 0, .null)]) (L' := [some (.ref 83), some (.ref 3), some (.int x2), some (.int x3), some (.int x4), none, none]) (st' := [.int (Int32.ofNat 40), .int x4]) (w' := w) (g := []) (K := [(85, 20), (85, 20), (83, 1)]) (by decide +kernel) rfl rfl rfl rfl (jk1 (kz_85 hk) (jk1 (kz_85 hk) (jk1 (kz_83 hk) jk0))) ?_
    refine ev_icmp_ge (off := 17) (tgt := 27) (by decide +kernel) (by decide) (fun c17 => ?_) (fun c17 => ?_)
    · replace h := jneg c17 h
      refine ev_seg (o := 1) (nL := 7) (q := 30) (xs := [(.iconst 0, 1, 0, 0, .int 0), (.istore 4, 2, 4, 0, .null)]) (L' := [some (.ref 83), some (.ref 3), some (.int x2), some (.int x3), some (.int 0), none, none]) (st' := []) (w' := w) (g := []) (K := []) (by decide +kernel) rfl rfl rfl rfl jk0 ?_
      refine ev_mask [true, true, true, true, true, false, false] ?_
      exact t_Knowing_hear_h30 hG hk jfu _ _ _ _ _ h
    · replace h := jpos c17 h
      obtain ⟨hg15, h⟩ := jgd h
      refine ev_seg (o := 1) (nL := 7) (q := 21) (xs := [(.aload_n 0, 1, 0, 0, .null), (.getfield 15, 3, 1, 1, .ref 20), (.iload 4, 2, 4, 0, .null), (.iconst (-1), 1, 0, 0, .int (-1)), (.iastore, 1, 0, 0, .null)]) (L' := [some (.ref 83), some (.ref 3), some (.int x2), some (.int x3), some (.int x4), none, none]) (st' := []) (w' := ((jup w.1 85 (Int32.toNatClampNeg x4) (-1)), w.2)) (g := [jin x4 40]) (K := [(85, 20), (85, 20), (83, 1)]) (by decide +kernel) rfl rfl rfl hg15 (jk1 (kz_85 hk) (jk1 (kz_85 hk) (jk1 (kz_83 hk) jk0))) ?_
      refine jlw_c (P := fun w16 => Ev l G (jrm d_Knowing_hear 0 0) y_Knowing_hear (none, (jRx kk), z) 0 0 0 0 21 [some (.ref 83), some (.ref 3), some (.int x2), some (.int x3), some (.int x4), none, none] [] (jRx kk) w16) h fun w16 h => ?_
      refine ev_seg (o := 1) (nL := 7) (q := 3) (xs := [(.iinc 4 1, 3, 4, 0, .int 1), (.goto (-21), 3, 0, 0, .null)]) (L' := [some (.ref 83), some (.ref 3), some (.int x2), some (.int x3), some (.int (x4 + 1)), none, none]) (st' := []) (w' := w16) (g := []) (K := []) (by decide +kernel) rfl rfl rfl rfl jk0 ?_
      refine ev_mask [true, true, true, true, true, false, false] ?_
      exact ih _ _ _ _ _ h
def f_Knowing_hear (x2 : Int32) (x3 : Int32) (w : jW) : Option jW :=
  f_Knowing_hear_h3 jfu x2 x3 0 w
set_option maxRecDepth 20000 in
theorem e_Knowing_hear {l : Launch} {G : jG} (hG : jX G) {kk : Nat} (hk : 93 ≤ kk) {x2 : Int32} {x3 : Int32} {w : jW} {z : jW} (h : f_Knowing_hear x2 x3 w = some z) : Ct l G y_Knowing_hear d_Knowing_hear 0 0 [.ref 83, .ref 3, .int x2, .int x3] (jRx kk) w (none, (jRx kk), z) := by
  rw [f_Knowing_hear] at h
  refine Ct.of (L := [some (.ref 83), some (.ref 3), some (.int x2), some (.int x3), none, none, none]) (by decide) (Nat.le_of_ble_eq_true rfl) rfl ?_
  refine ev_seg (o := 1) (nL := 7) (q := 3) (xs := [(.iconst 0, 1, 0, 0, .int 0), (.istore 4, 2, 4, 0, .null)]) (L' := [some (.ref 83), some (.ref 3), some (.int x2), some (.int x3), some (.int 0), none, none]) (st' := []) (w' := w) (g := []) (K := []) (by decide +kernel) rfl rfl rfl rfl jk0 ?_
  refine ev_mask [true, true, true, true, true, false, false] ?_
  exact t_Knowing_hear_h3 hG hk jfu _ _ _ _ _ h
def f_Knowing_placeTold (x2 : Int32) (w : jW) : Option (Int32 × jW) :=
  if x2 < 0 then
    some ((-1), w)
  else
    if x2 < (Int32.ofNat 40) then
      if jal [jin x2 40] = true then
      Option.bind (f_Rows_at 24 (w.1 85 (Int32.toNatClampNeg x2)) 1 w) fun q2 =>
      some (q2.1, q2.2)
      else none
    else
      some ((-1), w)
set_option maxRecDepth 20000 in
theorem e_Knowing_placeTold {l : Launch} {G : jG} (hG : jX G) {kk : Nat} (hk : 93 ≤ kk) {x2 : Int32} {w : jW} {z : (Int32 × jW)} (h : f_Knowing_placeTold x2 w = some z) : Ct l G y_Knowing_placeTold d_Knowing_placeTold 0 0 [.ref 83, .ref 3, .int x2] (jRx kk) w (some (.int z.1), (jRx kk), z.2) := by
  rw [f_Knowing_placeTold] at h
  refine Ct.of (L := [some (.ref 83), some (.ref 3), some (.int x2)]) (by decide) (Nat.le_of_ble_eq_true rfl) rfl ?_
  refine ev_seg (o := 1) (nL := 3) (q := 1) (xs := [(.iload_n 2, 1, 2, 0, .null)]) (L' := [some (.ref 83), some (.ref 3), some (.int x2)]) (st' := [.int x2]) (w' := w) (g := []) (K := []) (by decide +kernel) rfl rfl rfl rfl jk0 ?_
  refine ev_if_lt (off := 12) (tgt := 13) (by decide +kernel) (by decide) (fun c4 => ?_) (fun c4 => ?_)
  · replace h := jpos c4 h
    refine ev_seg (o := 1) (nL := 3) (q := 14) (xs := [(.iconst (-1), 1, 0, 0, .int (-1))]) (L' := [some (.ref 83), some (.ref 3), some (.int x2)]) (st' := [.int (-1)]) (w' := w) (g := []) (K := []) (by decide +kernel) rfl rfl rfl rfl jk0 ?_
    cases h
    exact ev_iret (by decide +kernel) rfl rfl rfl rfl
  · replace h := jneg c4 h
    refine ev_seg (o := 1) (nL := 3) (q := 10) (xs := [(.iload_n 2, 1, 2, 0, .null), (.aload_n 0, 1, 0, 0, .null), (.getfield 15, 3, 1, 1, .ref 20), (.arraylength, 1, 20, 0, .null)]) (L' := [some (.ref 83), some (.ref 3), some (.int x2)]) (st' := [.int (Int32.ofNat 40), .int x2]) (w' := w) (g := []) (K := [(85, 20), (85, 20), (83, 1)]) (by decide +kernel) rfl rfl rfl rfl (jk1 (kz_85 hk) (jk1 (kz_85 hk) (jk1 (kz_83 hk) jk0))) ?_
    refine ev_icmp_lt (off := 5) (tgt := 15) (by decide +kernel) (by decide) (fun c3 => ?_) (fun c3 => ?_)
    · replace h := jpos c3 h
      obtain ⟨hg1, h⟩ := jgd h
      refine ev_seg (o := 1) (nL := 3) (q := 26) (xs := [(.aload_n 1, 1, 1, 0, .null), (.getfield 19, 3, 6, 12, .ref 3), (.aload_n 0, 1, 0, 0, .null), (.getfield 15, 3, 1, 1, .ref 20), (.iload_n 2, 1, 2, 0, .null), (.iaload, 1, 0, 0, .null), (.iconst 1, 1, 0, 0, .int 1)]) (L' := [some (.ref 83), some (.ref 3), some (.int x2)]) (st' := [.int 1, .int (w.1 85 (Int32.toNatClampNeg x2)), .ref 24]) (w' := w) (g := [jin x2 40]) (K := [(85, 20), (85, 20), (83, 1), (24, 3), (3, 6)]) (by decide +kernel) rfl rfl rfl hg1 (jk1 (kz_85 hk) (jk1 (kz_85 hk) (jk1 (kz_83 hk) (jk1 (kz_24 hk) (jk1 (kz_3 hk) jk0))))) ?_
      obtain ⟨q2, hq2, h⟩ := jbe h
      refine ev_callV (ci := 3) (a := 24) (y2 := y_Rows_at) (o := 1) (idx := 31) (d2 := d_Rows_at) (n := 2) (mc2 := 0) (ms2 := 0) (As := [.int (w.1 85 (Int32.toNatClampNeg x2)), .int 1]) (st := []) (res2 := (some (.int q2.1), (jRx kk), q2.2)) (by decide +kernel) rfl lk_1_31 mo_Rows_at mv_Rows_at ⟨Nat.le_of_ble_eq_true rfl, Nat.le_of_ble_eq_true rfl⟩ rfl rfl (kz_24 hk) (by decide) rfl (Nat.le_of_ble_eq_true rfl) ⟨Nat.le_refl _, Nat.le_refl _⟩ hG (e_Rows_at hG hk (kz_24 hk) hq2) ?_
      cases h
      exact ev_iret (by decide +kernel) rfl rfl rfl rfl
    · replace h := jneg c3 h
      refine ev_seg (o := 1) (nL := 3) (q := 14) (xs := [(.iconst (-1), 1, 0, 0, .int (-1))]) (L' := [some (.ref 83), some (.ref 3), some (.int x2)]) (st' := [.int (-1)]) (w' := w) (g := []) (K := []) (by decide +kernel) rfl rfl rfl rfl jk0 ?_
      cases h
      exact ev_iret (by decide +kernel) rfl rfl rfl rfl
def f_Knowing_numberTold_h6 : Nat → Int32 → Int32 → Int32 → Int32 → jW → Option (Int32 × jW)
  | 0, _, _, _, _, _ => none
  | n + 1, x2, x3, x4, x5, w =>
  Option.bind (f_Rows_count 10 w) fun q1 =>
  if x5 < q1.1 then
    Option.bind (f_Rows_at 10 x5 0 q1.2) fun q2 =>
    if q2.1 = x3 then
      Option.bind (f_Knowing_placeTold x5 q2.2) fun q3 =>
      if q3.1 = x2 then
        (f_Knowing_numberTold_h6 n) x2 x3 (x4 + 1) (x5 + 1) q3.2
      else
        (f_Knowing_numberTold_h6 n) x2 x3 x4 (x5 + 1) q3.2
    else
      (f_Knowing_numberTold_h6 n) x2 x3 x4 (x5 + 1) q2.2
  else
    some (x4, q1.2)
set_option maxRecDepth 20000 in
theorem t_Knowing_numberTold_h6 {l : Launch} {G : jG} (hG : jX G) {kk : Nat} (hk : 93 ≤ kk) : ∀ (n : Nat) (x2 : Int32) (x3 : Int32) (x4 : Int32) (x5 : Int32) (w : jW) (z : (Int32 × jW)), f_Knowing_numberTold_h6 n x2 x3 x4 x5 w = some z → Ev l G (jrm d_Knowing_numberTold 0 0) y_Knowing_numberTold (some (.int z.1), (jRx kk), z.2) 0 0 0 0 6 [some (.ref 83), some (.ref 3), some (.int x2), some (.int x3), some (.int x4), some (.int x5)] [] (jRx kk) w := by
  intro n
  induction n with
  | zero => intro x2 x3 x4 x5 w z h; simp only [f_Knowing_numberTold_h6] at h; cases h
  | succ n ih =>
    intro x2 x3 x4 x5 w z h
    rw [f_Knowing_numberTold_h6] at h
    refine ev_seg (o := 1) (nL := 6) (q := 12) (xs := [(.iload 5, 2, 5, 0, .null), (.aload_n 1, 1, 1, 0, .null), (.getfield 35, 3, 6, 8, .ref 3)]) (L' := [some (.ref 83), some (.ref 3), some (.int x2), some (.int x3), some (.int x4), some (.int x5)]) (st' := [.ref 10, .int x5]) (w' := w) (g := []) (K := [(10, 3), (3, 6)]) (by decide +kernel) rfl rfl rfl rfl (jk1 (kz_10 hk) (jk1 (kz_3 hk) jk0)) ?_
    obtain ⟨q1, hq1, h⟩ := jbe h
    refine ev_callV (ci := 3) (a := 10) (y2 := y_Rows_count) (o := 1) (idx := 25) (d2 := d_Rows_count) (n := 0) (mc2 := 0) (ms2 := 0) (As := []) (st := [.int x5]) (res2 := (some (.int q1.1), (jRx kk), q1.2)) (by decide +kernel) rfl lk_1_25 mo_Rows_count mv_Rows_count ⟨Nat.le_of_ble_eq_true rfl, Nat.le_of_ble_eq_true rfl⟩ rfl rfl (kz_10 hk) (by decide) rfl (Nat.le_of_ble_eq_true rfl) ⟨Nat.le_refl _, Nat.le_refl _⟩ hG (e_Rows_count hG hk (kz_10 hk) hq1) ?_
    refine ev_icmp_ge (off := 37) (tgt := 52) (by decide +kernel) (by decide) (fun c6 => ?_) (fun c6 => ?_)
    · replace h := jneg c6 h
      refine ev_seg (o := 1) (nL := 6) (q := 54) (xs := [(.iload 4, 2, 4, 0, .null)]) (L' := [some (.ref 83), some (.ref 3), some (.int x2), some (.int x3), some (.int x4), some (.int x5)]) (st' := [.int x4]) (w' := q1.2) (g := []) (K := []) (by decide +kernel) rfl rfl rfl rfl jk0 ?_
      cases h
      exact ev_iret (by decide +kernel) rfl rfl rfl rfl
    · replace h := jpos c6 h
      refine ev_seg (o := 1) (nL := 6) (q := 25) (xs := [(.aload_n 1, 1, 1, 0, .null), (.getfield 35, 3, 6, 8, .ref 3), (.iload 5, 2, 5, 0, .null), (.iconst 0, 1, 0, 0, .int 0)]) (L' := [some (.ref 83), some (.ref 3), some (.int x2), some (.int x3), some (.int x4), some (.int x5)]) (st' := [.int 0, .int x5, .ref 10]) (w' := q1.2) (g := []) (K := [(10, 3), (3, 6)]) (by decide +kernel) rfl rfl rfl rfl (jk1 (kz_10 hk) (jk1 (kz_3 hk) jk0)) ?_
      obtain ⟨q2, hq2, h⟩ := jbe h
      refine ev_callV (ci := 3) (a := 10) (y2 := y_Rows_at) (o := 1) (idx := 31) (d2 := d_Rows_at) (n := 2) (mc2 := 0) (ms2 := 0) (As := [.int x5, .int 0]) (st := []) (res2 := (some (.int q2.1), (jRx kk), q2.2)) (by decide +kernel) rfl lk_1_31 mo_Rows_at mv_Rows_at ⟨Nat.le_of_ble_eq_true rfl, Nat.le_of_ble_eq_true rfl⟩ rfl rfl (kz_10 hk) (by decide) rfl (Nat.le_of_ble_eq_true rfl) ⟨Nat.le_refl _, Nat.le_refl _⟩ hG (e_Rows_at hG hk (kz_10 hk) hq2) ?_
      refine ev_seg (o := 1) (nL := 6) (q := 29) (xs := [(.iload_n 3, 1, 3, 0, .null)]) (L' := [some (.ref 83), some (.ref 3), some (.int x2), some (.int x3), some (.int x4), some (.int x5)]) (st' := [.int x3, .int q2.1]) (w' := q2.2) (g := []) (K := []) (by decide +kernel) rfl rfl rfl rfl jk0 ?_
      refine ev_icmp_ne (off := 17) (tgt := 46) (by decide +kernel) (by decide) (fun c5 => ?_) (fun c5 => ?_)
      · replace h := jneg c5 h
        refine ev_seg (o := 1) (nL := 6) (q := 6) (xs := [(.iinc 5 1, 3, 5, 0, .int 1), (.goto (-43), 3, 0, 0, .null)]) (L' := [some (.ref 83), some (.ref 3), some (.int x2), some (.int x3), some (.int x4), some (.int (x5 + 1))]) (st' := []) (w' := q2.2) (g := []) (K := []) (by decide +kernel) rfl rfl rfl rfl jk0 ?_
        refine ev_mask [true, true, true, true, true, true] ?_
        exact ih _ _ _ _ _ _ h
      · replace h := jpos c5 h
        refine ev_seg (o := 1) (nL := 6) (q := 36) (xs := [(.aload_n 0, 1, 0, 0, .null), (.aload_n 1, 1, 1, 0, .null), (.iload 5, 2, 5, 0, .null)]) (L' := [some (.ref 83), some (.ref 3), some (.int x2), some (.int x3), some (.int x4), some (.int x5)]) (st' := [.int x5, .ref 3, .ref 83]) (w' := q2.2) (g := []) (K := []) (by decide +kernel) rfl rfl rfl rfl jk0 ?_
        obtain ⟨q3, hq3, h⟩ := jbe h
        refine ev_callV (ci := 1) (a := 83) (y2 := y_Knowing_placeTold) (o := 1) (idx := 38) (d2 := d_Knowing_placeTold) (n := 2) (mc2 := 0) (ms2 := 0) (As := [.ref 3, .int x5]) (st := []) (res2 := (some (.int q3.1), (jRx kk), q3.2)) (by decide +kernel) rfl lk_1_38 mo_Knowing_placeTold mv_Knowing_placeTold ⟨Nat.le_of_ble_eq_true rfl, Nat.le_of_ble_eq_true rfl⟩ rfl rfl (kz_83 hk) (by decide) rfl (Nat.le_of_ble_eq_true rfl) ⟨Nat.le_refl _, Nat.le_refl _⟩ hG (e_Knowing_placeTold hG hk hq3) ?_
        refine ev_seg (o := 1) (nL := 6) (q := 40) (xs := [(.iload_n 2, 1, 2, 0, .null)]) (L' := [some (.ref 83), some (.ref 3), some (.int x2), some (.int x3), some (.int x4), some (.int x5)]) (st' := [.int x2, .int q3.1]) (w' := q3.2) (g := []) (K := []) (by decide +kernel) rfl rfl rfl rfl jk0 ?_
        refine ev_icmp_ne (off := 6) (tgt := 46) (by decide +kernel) (by decide) (fun c4 => ?_) (fun c4 => ?_)
        · replace h := jneg c4 h
          refine ev_seg (o := 1) (nL := 6) (q := 6) (xs := [(.iinc 5 1, 3, 5, 0, .int 1), (.goto (-43), 3, 0, 0, .null)]) (L' := [some (.ref 83), some (.ref 3), some (.int x2), some (.int x3), some (.int x4), some (.int (x5 + 1))]) (st' := []) (w' := q3.2) (g := []) (K := []) (by decide +kernel) rfl rfl rfl rfl jk0 ?_
          refine ev_mask [true, true, true, true, true, true] ?_
          exact ih _ _ _ _ _ _ h
        · replace h := jpos c4 h
          refine ev_seg (o := 1) (nL := 6) (q := 6) (xs := [(.iinc 4 1, 3, 4, 0, .int 1), (.iinc 5 1, 3, 5, 0, .int 1), (.goto (-43), 3, 0, 0, .null)]) (L' := [some (.ref 83), some (.ref 3), some (.int x2), some (.int x3), some (.int (x4 + 1)), some (.int (x5 + 1))]) (st' := []) (w' := q3.2) (g := []) (K := []) (by decide +kernel) rfl rfl rfl rfl jk0 ?_
          refine ev_mask [true, true, true, true, true, true] ?_
          exact ih _ _ _ _ _ _ h
def f_Knowing_numberTold (x2 : Int32) (x3 : Int32) (w : jW) : Option (Int32 × jW) :=
  f_Knowing_numberTold_h6 jfu x2 x3 0 0 w
set_option maxRecDepth 20000 in
theorem e_Knowing_numberTold {l : Launch} {G : jG} (hG : jX G) {kk : Nat} (hk : 93 ≤ kk) {x2 : Int32} {x3 : Int32} {w : jW} {z : (Int32 × jW)} (h : f_Knowing_numberTold x2 x3 w = some z) : Ct l G y_Knowing_numberTold d_Knowing_numberTold 0 0 [.ref 83, .ref 3, .int x2, .int x3] (jRx kk) w (some (.int z.1), (jRx kk), z.2) := by
  rw [f_Knowing_numberTold] at h
  refine Ct.of (L := [some (.ref 83), some (.ref 3), some (.int x2), some (.int x3), none, none]) (by decide) (Nat.le_of_ble_eq_true rfl) rfl ?_
  refine ev_seg (o := 1) (nL := 6) (q := 6) (xs := [(.iconst 0, 1, 0, 0, .int 0), (.istore 4, 2, 4, 0, .null), (.iconst 0, 1, 0, 0, .int 0), (.istore 5, 2, 5, 0, .null)]) (L' := [some (.ref 83), some (.ref 3), some (.int x2), some (.int x3), some (.int 0), some (.int 0)]) (st' := []) (w' := w) (g := []) (K := []) (by decide +kernel) rfl rfl rfl rfl jk0 ?_
  refine ev_mask [true, true, true, true, true, true] ?_
  exact t_Knowing_numberTold_h6 hG hk jfu _ _ _ _ _ _ h
def f_Count_doubted (x1 : Int32) (x2 : Int32) (x3 : Int32) (x4 : Int32) (w : jW) : Option (Int32 × jW) :=
  Option.bind (f_Count_isKnowable x1 x2 x3 x4 w) fun q1 =>
  if q1.1 = 0 then
    some ((-1), q1.2)
  else
    Option.bind (f_Knowing_hear x3 x4 q1.2) fun q2 =>
    Option.bind (f_Knowing_walk x1 x3 x4 q2) fun q3 =>
    Option.bind (f_Knowing_numberTold x1 x2 q3) fun q4 =>
    Option.bind (f_Knowing_isPossible x2 q4.1 q4.2) fun q5 =>
    if q5.1 = 0 then
      some (1, q5.2)
    else
      some (0, q5.2)
set_option maxRecDepth 20000 in
theorem e_Count_doubted {l : Launch} {G : jG} (hG : jX G) {kk : Nat} (hk : 93 ≤ kk) {x1 : Int32} {x2 : Int32} {x3 : Int32} {x4 : Int32} {w : jW} {z : (Int32 × jW)} (h : f_Count_doubted x1 x2 x3 x4 w = some z) : Ct l G y_Count_doubted d_Count_doubted 0 0 [.ref 2, .int x1, .int x2, .int x3, .int x4] (jRx kk) w (some (.int z.1), (jRx kk), z.2) := by
  rw [f_Count_doubted] at h
  refine Ct.of (L := [some (.ref 2), some (.int x1), some (.int x2), some (.int x3), some (.int x4)]) (by decide) (Nat.le_of_ble_eq_true rfl) rfl ?_
  refine ev_seg (o := 9) (nL := 5) (q := 6) (xs := [(.aload_n 0, 1, 0, 0, .null), (.iload_n 1, 1, 1, 0, .null), (.iload_n 2, 1, 2, 0, .null), (.iload_n 3, 1, 3, 0, .null), (.iload 4, 2, 4, 0, .null)]) (L' := [some (.ref 2), some (.int x1), some (.int x2), some (.int x3), some (.int x4)]) (st' := [.int x4, .int x3, .int x2, .int x1, .ref 2]) (w' := w) (g := []) (K := []) (by decide +kernel) rfl rfl rfl rfl jk0 ?_
  obtain ⟨q1, hq1, h⟩ := jbe h
  refine ev_callV (ci := 9) (a := 2) (y2 := y_Count_isKnowable) (o := 9) (idx := 243) (d2 := d_Count_isKnowable) (n := 4) (mc2 := 0) (ms2 := 0) (As := [.int x1, .int x2, .int x3, .int x4]) (st := []) (res2 := (some (.int q1.1), (jRx kk), q1.2)) (by decide +kernel) rfl lk_9_243 mo_Count_isKnowable mv_Count_isKnowable ⟨Nat.le_of_ble_eq_true rfl, Nat.le_of_ble_eq_true rfl⟩ rfl rfl (kz_2 hk) (by decide) rfl (Nat.le_of_ble_eq_true rfl) ⟨Nat.le_refl _, Nat.le_refl _⟩ hG (e_Count_isKnowable hG hk hq1) ?_
  refine ev_if_ne (off := 5) (tgt := 14) (by decide +kernel) (by decide) (fun c7 => ?_) (fun c7 => ?_)
  · replace h := jneg c7 h
    refine ev_seg (o := 9) (nL := 5) (q := 25) (xs := [(.aload_n 0, 1, 0, 0, .null), (.getfield 29, 3, 9, 3, .ref 1), (.aload_n 0, 1, 0, 0, .null), (.getfield 12, 3, 9, 0, .ref 6), (.iload_n 3, 1, 3, 0, .null), (.iload 4, 2, 4, 0, .null)]) (L' := [some (.ref 2), some (.int x1), some (.int x2), some (.int x3), some (.int x4)]) (st' := [.int x4, .int x3, .ref 3, .ref 83]) (w' := q1.2) (g := []) (K := [(3, 6), (2, 9), (83, 1), (2, 9)]) (by decide +kernel) rfl rfl rfl rfl (jk1 (kz_3 hk) (jk1 (kz_2 hk) (jk1 (kz_83 hk) (jk1 (kz_2 hk) jk0)))) ?_
    obtain ⟨q2, hq2, h⟩ := jbe h
    refine ev_callV (ci := 1) (a := 83) (y2 := y_Knowing_hear) (o := 9) (idx := 206) (d2 := d_Knowing_hear) (n := 3) (mc2 := 0) (ms2 := 0) (As := [.ref 3, .int x3, .int x4]) (st := []) (res2 := (none, (jRx kk), q2)) (by decide +kernel) rfl lk_9_206 mo_Knowing_hear mv_Knowing_hear ⟨Nat.le_of_ble_eq_true rfl, Nat.le_of_ble_eq_true rfl⟩ rfl rfl (kz_83 hk) (by decide) rfl (Nat.le_of_ble_eq_true rfl) ⟨Nat.le_refl _, Nat.le_refl _⟩ hG (e_Knowing_hear hG hk hq2) ?_
    refine ev_seg (o := 9) (nL := 5) (q := 40) (xs := [(.aload_n 0, 1, 0, 0, .null), (.getfield 29, 3, 9, 3, .ref 1), (.aload_n 0, 1, 0, 0, .null), (.getfield 12, 3, 9, 0, .ref 6), (.iload_n 1, 1, 1, 0, .null), (.iload_n 3, 1, 3, 0, .null), (.iload 4, 2, 4, 0, .null)]) (L' := [some (.ref 2), some (.int x1), some (.int x2), some (.int x3), some (.int x4)]) (st' := [.int x4, .int x3, .int x1, .ref 3, .ref 83]) (w' := q2) (g := []) (K := [(3, 6), (2, 9), (83, 1), (2, 9)]) (by decide +kernel) rfl rfl rfl rfl (jk1 (kz_3 hk) (jk1 (kz_2 hk) (jk1 (kz_83 hk) (jk1 (kz_2 hk) jk0)))) ?_
    obtain ⟨q3, hq3, h⟩ := jbe h
    refine ev_callV (ci := 1) (a := 83) (y2 := y_Knowing_walk) (o := 9) (idx := 247) (d2 := d_Knowing_walk) (n := 4) (mc2 := 0) (ms2 := 0) (As := [.ref 3, .int x1, .int x3, .int x4]) (st := []) (res2 := (none, (jRx kk), q3)) (by decide +kernel) rfl lk_9_247 mo_Knowing_walk mv_Knowing_walk ⟨Nat.le_of_ble_eq_true rfl, Nat.le_of_ble_eq_true rfl⟩ rfl rfl (kz_83 hk) (by decide) rfl (Nat.le_of_ble_eq_true rfl) ⟨Nat.le_refl _, Nat.le_refl _⟩ hG (e_Knowing_walk hG hk hq3) ?_
    refine ev_seg (o := 9) (nL := 5) (q := 58) (xs := [(.aload_n 0, 1, 0, 0, .null), (.getfield 29, 3, 9, 3, .ref 1), (.iload_n 2, 1, 2, 0, .null), (.aload_n 0, 1, 0, 0, .null), (.getfield 29, 3, 9, 3, .ref 1), (.aload_n 0, 1, 0, 0, .null), (.getfield 12, 3, 9, 0, .ref 6), (.iload_n 1, 1, 1, 0, .null), (.iload_n 2, 1, 2, 0, .null)]) (L' := [some (.ref 2), some (.int x1), some (.int x2), some (.int x3), some (.int x4)]) (st' := [.int x2, .int x1, .ref 3, .ref 83, .int x2, .ref 83]) (w' := q3) (g := []) (K := [(3, 6), (2, 9), (83, 1), (2, 9), (83, 1), (2, 9)]) (by decide +kernel) rfl rfl rfl rfl (jk1 (kz_3 hk) (jk1 (kz_2 hk) (jk1 (kz_83 hk) (jk1 (kz_2 hk) (jk1 (kz_83 hk) (jk1 (kz_2 hk) jk0)))))) ?_
    obtain ⟨q4, hq4, h⟩ := jbe h
    refine ev_callV (ci := 1) (a := 83) (y2 := y_Knowing_numberTold) (o := 9) (idx := 214) (d2 := d_Knowing_numberTold) (n := 3) (mc2 := 0) (ms2 := 0) (As := [.ref 3, .int x1, .int x2]) (st := [.int x2, .ref 83]) (res2 := (some (.int q4.1), (jRx kk), q4.2)) (by decide +kernel) rfl lk_9_214 mo_Knowing_numberTold mv_Knowing_numberTold ⟨Nat.le_of_ble_eq_true rfl, Nat.le_of_ble_eq_true rfl⟩ rfl rfl (kz_83 hk) (by decide) rfl (Nat.le_of_ble_eq_true rfl) ⟨Nat.le_refl _, Nat.le_refl _⟩ hG (e_Knowing_numberTold hG hk hq4) ?_
    obtain ⟨q5, hq5, h⟩ := jbe h
    refine ev_callV (ci := 1) (a := 83) (y2 := y_Knowing_isPossible) (o := 9) (idx := 257) (d2 := d_Knowing_isPossible) (n := 2) (mc2 := 0) (ms2 := 0) (As := [.int x2, .int q4.1]) (st := []) (res2 := (some (.int q5.1), (jRx kk), q5.2)) (by decide +kernel) rfl lk_9_257 mo_Knowing_isPossible mv_Knowing_isPossible ⟨Nat.le_of_ble_eq_true rfl, Nat.le_of_ble_eq_true rfl⟩ rfl rfl (kz_83 hk) (by decide) rfl (Nat.le_of_ble_eq_true rfl) ⟨Nat.le_refl _, Nat.le_refl _⟩ hG (e_Knowing_isPossible hG hk hq5) ?_
    refine ev_if_eq (off := 7) (tgt := 71) (by decide +kernel) (by decide) (fun c6 => ?_) (fun c6 => ?_)
    · replace h := jpos c6 h
      refine ev_seg (o := 9) (nL := 5) (q := 72) (xs := [(.iconst 1, 1, 0, 0, .int 1)]) (L' := [some (.ref 2), some (.int x1), some (.int x2), some (.int x3), some (.int x4)]) (st' := [.int 1]) (w' := q5.2) (g := []) (K := []) (by decide +kernel) rfl rfl rfl rfl jk0 ?_
      cases h
      exact ev_iret (by decide +kernel) rfl rfl rfl rfl
    · replace h := jneg c6 h
      refine ev_seg (o := 9) (nL := 5) (q := 72) (xs := [(.iconst 0, 1, 0, 0, .int 0), (.goto 4, 3, 0, 0, .null)]) (L' := [some (.ref 2), some (.int x1), some (.int x2), some (.int x3), some (.int x4)]) (st' := [.int 0]) (w' := q5.2) (g := []) (K := []) (by decide +kernel) rfl rfl rfl rfl jk0 ?_
      cases h
      exact ev_iret (by decide +kernel) rfl rfl rfl rfl
  · replace h := jpos c7 h
    refine ev_seg (o := 9) (nL := 5) (q := 13) (xs := [(.iconst (-1), 1, 0, 0, .int (-1))]) (L' := [some (.ref 2), some (.int x1), some (.int x2), some (.int x3), some (.int x4)]) (st' := [.int (-1)]) (w' := q1.2) (g := []) (K := []) (by decide +kernel) rfl rfl rfl rfl jk0 ?_
    cases h
    exact ev_iret (by decide +kernel) rfl rfl rfl rfl
def f_Count_doubt_h69 (k36 : Int32 → Int32 → Int32 → Int32 → Int32 → jW → Option (Int32 × jW)) : Nat → Int32 → Int32 → Int32 → Int32 → Int32 → Int32 → jW → Option (Int32 × jW)
  | 0, _, _, _, _, _, _, _ => none
  | n + 1, x1, x2, x3, x4, x5, x6, w =>
  if x6 < 4 then
    Option.bind (f_Knowing_numberTold x5 x6 w) fun q5 =>
    Option.bind (f_Knowing_isPossible x6 q5.1 q5.2) fun q6 =>
    if q6.1 = 0 then
      if x4 = x3 then
        some (((4 * x5) + x6), q6.2)
      else
        (f_Count_doubt_h69 k36 n) x1 x2 x3 (x4 + 1) x5 (x6 + 1) q6.2
    else
      (f_Count_doubt_h69 k36 n) x1 x2 x3 x4 x5 (x6 + 1) q6.2
  else
    k36 x1 x2 x3 x4 (x5 + 1) w
set_option maxRecDepth 20000 in
theorem t_Count_doubt_h69 {l : Launch} {G : jG} (hG : jX G) {kk : Nat} (hk : 93 ≤ kk) {k36 : Int32 → Int32 → Int32 → Int32 → Int32 → jW → Option (Int32 × jW)} (hk36 : ∀ (x1 : Int32) (x2 : Int32) (x3 : Int32) (x4 : Int32) (x5 : Int32) (w : jW) (z : (Int32 × jW)), k36 x1 x2 x3 x4 x5 w = some z → Ev l G (jrm d_Count_doubt 0 0) y_Count_doubt (some (.int z.1), (jRx kk), z.2) 0 0 0 0 36 [some (.ref 2), some (.int x1), some (.int x2), some (.int x3), some (.int x4), some (.int x5), none] [] (jRx kk) w) : ∀ (n : Nat) (x1 : Int32) (x2 : Int32) (x3 : Int32) (x4 : Int32) (x5 : Int32) (x6 : Int32) (w : jW) (z : (Int32 × jW)), f_Count_doubt_h69 k36 n x1 x2 x3 x4 x5 x6 w = some z → Ev l G (jrm d_Count_doubt 0 0) y_Count_doubt (some (.int z.1), (jRx kk), z.2) 0 0 0 0 69 [some (.ref 2), some (.int x1), some (.int x2), some (.int x3), some (.int x4), some (.int x5), some (.int x6)] [] (jRx kk) w := by
  intro n
  induction n with
  | zero => intro x1 x2 x3 x4 x5 x6 w z h; simp only [f_Count_doubt_h69] at h; cases h
  | succ n ih =>
    intro x1 x2 x3 x4 x5 x6 w z h
    rw [f_Count_doubt_h69] at h
    refine ev_seg (o := 9) (nL := 7) (q := 72) (xs := [(.iload 6, 2, 6, 0, .null), (.iconst 4, 1, 0, 0, .int 4)]) (L' := [some (.ref 2), some (.int x1), some (.int x2), some (.int x3), some (.int x4), some (.int x5), some (.int x6)]) (st' := [.int 4, .int x6]) (w' := w) (g := []) (K := []) (by decide +kernel) rfl rfl rfl rfl jk0 ?_
    refine ev_icmp_ge (off := 53) (tgt := 125) (by decide +kernel) (by decide) (fun c9 => ?_) (fun c9 => ?_)
    · replace h := jneg c9 h
      refine ev_seg (o := 9) (nL := 7) (q := 36) (xs := [(.iinc 5 1, 3, 5, 0, .int 1), (.goto (-92), 3, 0, 0, .null)]) (L' := [some (.ref 2), some (.int x1), some (.int x2), some (.int x3), some (.int x4), some (.int (x5 + 1)), some (.int x6)]) (st' := []) (w' := w) (g := []) (K := []) (by decide +kernel) rfl rfl rfl rfl jk0 ?_
      refine ev_mask [true, true, true, true, true, true, false] ?_
      exact hk36 _ _ _ _ _ _ _ h
    · replace h := jpos c9 h
      refine ev_seg (o := 9) (nL := 7) (q := 93) (xs := [(.aload_n 0, 1, 0, 0, .null), (.getfield 29, 3, 9, 3, .ref 1), (.iload 6, 2, 6, 0, .null), (.aload_n 0, 1, 0, 0, .null), (.getfield 29, 3, 9, 3, .ref 1), (.aload_n 0, 1, 0, 0, .null), (.getfield 12, 3, 9, 0, .ref 6), (.iload 5, 2, 5, 0, .null), (.iload 6, 2, 6, 0, .null)]) (L' := [some (.ref 2), some (.int x1), some (.int x2), some (.int x3), some (.int x4), some (.int x5), some (.int x6)]) (st' := [.int x6, .int x5, .ref 3, .ref 83, .int x6, .ref 83]) (w' := w) (g := []) (K := [(3, 6), (2, 9), (83, 1), (2, 9), (83, 1), (2, 9)]) (by decide +kernel) rfl rfl rfl rfl (jk1 (kz_3 hk) (jk1 (kz_2 hk) (jk1 (kz_83 hk) (jk1 (kz_2 hk) (jk1 (kz_83 hk) (jk1 (kz_2 hk) jk0)))))) ?_
      obtain ⟨q5, hq5, h⟩ := jbe h
      refine ev_callV (ci := 1) (a := 83) (y2 := y_Knowing_numberTold) (o := 9) (idx := 214) (d2 := d_Knowing_numberTold) (n := 3) (mc2 := 0) (ms2 := 0) (As := [.ref 3, .int x5, .int x6]) (st := [.int x6, .ref 83]) (res2 := (some (.int q5.1), (jRx kk), q5.2)) (by decide +kernel) rfl lk_9_214 mo_Knowing_numberTold mv_Knowing_numberTold ⟨Nat.le_of_ble_eq_true rfl, Nat.le_of_ble_eq_true rfl⟩ rfl rfl (kz_83 hk) (by decide) rfl (Nat.le_of_ble_eq_true rfl) ⟨Nat.le_refl _, Nat.le_refl _⟩ hG (e_Knowing_numberTold hG hk hq5) ?_
      obtain ⟨q6, hq6, h⟩ := jbe h
      refine ev_callV (ci := 1) (a := 83) (y2 := y_Knowing_isPossible) (o := 9) (idx := 257) (d2 := d_Knowing_isPossible) (n := 2) (mc2 := 0) (ms2 := 0) (As := [.int x6, .int q5.1]) (st := []) (res2 := (some (.int q6.1), (jRx kk), q6.2)) (by decide +kernel) rfl lk_9_257 mo_Knowing_isPossible mv_Knowing_isPossible ⟨Nat.le_of_ble_eq_true rfl, Nat.le_of_ble_eq_true rfl⟩ rfl rfl (kz_83 hk) (by decide) rfl (Nat.le_of_ble_eq_true rfl) ⟨Nat.le_refl _, Nat.le_refl _⟩ hG (e_Knowing_isPossible hG hk hq6) ?_
      refine ev_if_ne (off := 20) (tgt := 119) (by decide +kernel) (by decide) (fun c8 => ?_) (fun c8 => ?_)
      · replace h := jneg c8 h
        refine ev_seg (o := 9) (nL := 7) (q := 69) (xs := [(.iinc 6 1, 3, 6, 0, .int 1), (.goto (-53), 3, 0, 0, .null)]) (L' := [some (.ref 2), some (.int x1), some (.int x2), some (.int x3), some (.int x4), some (.int x5), some (.int (x6 + 1))]) (st' := []) (w' := q6.2) (g := []) (K := []) (by decide +kernel) rfl rfl rfl rfl jk0 ?_
        refine ev_mask [true, true, true, true, true, true, true] ?_
        exact ih _ _ _ _ _ _ _ _ h
      · replace h := jpos c8 h
        refine ev_seg (o := 9) (nL := 7) (q := 105) (xs := [(.iload 4, 2, 4, 0, .null), (.iload_n 3, 1, 3, 0, .null)]) (L' := [some (.ref 2), some (.int x1), some (.int x2), some (.int x3), some (.int x4), some (.int x5), some (.int x6)]) (st' := [.int x3, .int x4]) (w' := q6.2) (g := []) (K := []) (by decide +kernel) rfl rfl rfl rfl jk0 ?_
        refine ev_icmp_ne (off := 11) (tgt := 116) (by decide +kernel) (by decide) (fun c7 => ?_) (fun c7 => ?_)
        · replace h := jneg c7 h
          refine ev_seg (o := 9) (nL := 7) (q := 69) (xs := [(.iinc 4 1, 3, 4, 0, .int 1), (.iinc 6 1, 3, 6, 0, .int 1), (.goto (-53), 3, 0, 0, .null)]) (L' := [some (.ref 2), some (.int x1), some (.int x2), some (.int x3), some (.int (x4 + 1)), some (.int x5), some (.int (x6 + 1))]) (st' := []) (w' := q6.2) (g := []) (K := []) (by decide +kernel) rfl rfl rfl rfl jk0 ?_
          refine ev_mask [true, true, true, true, true, true, true] ?_
          exact ih _ _ _ _ _ _ _ _ h
        · replace h := jpos c7 h
          refine ev_seg (o := 9) (nL := 7) (q := 115) (xs := [(.iconst 4, 1, 0, 0, .int 4), (.iload 5, 2, 5, 0, .null), (.imul, 1, 0, 0, .null), (.iload 6, 2, 6, 0, .null), (.iadd, 1, 0, 0, .null)]) (L' := [some (.ref 2), some (.int x1), some (.int x2), some (.int x3), some (.int x4), some (.int x5), some (.int x6)]) (st' := [.int ((4 * x5) + x6)]) (w' := q6.2) (g := []) (K := []) (by decide +kernel) rfl rfl rfl rfl jk0 ?_
          cases h
          exact ev_iret (by decide +kernel) rfl rfl rfl rfl
def f_Count_doubt_h36 : Nat → Int32 → Int32 → Int32 → Int32 → Int32 → jW → Option (Int32 × jW)
  | 0, _, _, _, _, _, _ => none
  | n + 1, x1, x2, x3, x4, x5, w =>
  Option.bind (f_Rows_count 6 w) fun q3 =>
  if x5 < q3.1 then
    Option.bind (f_Knowing_walk x5 x1 x2 q3.2) fun q4 =>
    f_Count_doubt_h69 (f_Count_doubt_h36 n) jfu x1 x2 x3 x4 x5 0 q4
  else
    some ((-1), q3.2)
set_option maxRecDepth 20000 in
theorem t_Count_doubt_h36 {l : Launch} {G : jG} (hG : jX G) {kk : Nat} (hk : 93 ≤ kk) : ∀ (n : Nat) (x1 : Int32) (x2 : Int32) (x3 : Int32) (x4 : Int32) (x5 : Int32) (w : jW) (z : (Int32 × jW)), f_Count_doubt_h36 n x1 x2 x3 x4 x5 w = some z → Ev l G (jrm d_Count_doubt 0 0) y_Count_doubt (some (.int z.1), (jRx kk), z.2) 0 0 0 0 36 [some (.ref 2), some (.int x1), some (.int x2), some (.int x3), some (.int x4), some (.int x5), none] [] (jRx kk) w := by
  intro n
  induction n with
  | zero => intro x1 x2 x3 x4 x5 w z h; simp only [f_Count_doubt_h36] at h; cases h
  | succ n ih =>
    intro x1 x2 x3 x4 x5 w z h
    rw [f_Count_doubt_h36] at h
    refine ev_seg (o := 9) (nL := 7) (q := 45) (xs := [(.iload 5, 2, 5, 0, .null), (.aload_n 0, 1, 0, 0, .null), (.getfield 12, 3, 9, 0, .ref 6), (.getfield 58, 3, 6, 6, .ref 3)]) (L' := [some (.ref 2), some (.int x1), some (.int x2), some (.int x3), some (.int x4), some (.int x5), none]) (st' := [.ref 6, .int x5]) (w' := w) (g := []) (K := [(6, 3), (3, 6), (3, 6), (2, 9)]) (by decide +kernel) rfl rfl rfl rfl (jk1 (kz_6 hk) (jk1 (kz_3 hk) (jk1 (kz_3 hk) (jk1 (kz_2 hk) jk0)))) ?_
    obtain ⟨q3, hq3, h⟩ := jbe h
    refine ev_callV (ci := 3) (a := 6) (y2 := y_Rows_count) (o := 9) (idx := 103) (d2 := d_Rows_count) (n := 0) (mc2 := 0) (ms2 := 0) (As := []) (st := [.int x5]) (res2 := (some (.int q3.1), (jRx kk), q3.2)) (by decide +kernel) rfl lk_9_103 mo_Rows_count mv_Rows_count ⟨Nat.le_of_ble_eq_true rfl, Nat.le_of_ble_eq_true rfl⟩ rfl rfl (kz_6 hk) (by decide) rfl (Nat.le_of_ble_eq_true rfl) ⟨Nat.le_refl _, Nat.le_refl _⟩ hG (e_Rows_count hG hk (kz_6 hk) hq3) ?_
    refine ev_icmp_ge (off := 83) (tgt := 131) (by decide +kernel) (by decide) (fun c10 => ?_) (fun c10 => ?_)
    · replace h := jneg c10 h
      refine ev_seg (o := 9) (nL := 7) (q := 132) (xs := [(.iconst (-1), 1, 0, 0, .int (-1))]) (L' := [some (.ref 2), some (.int x1), some (.int x2), some (.int x3), some (.int x4), some (.int x5), none]) (st' := [.int (-1)]) (w' := q3.2) (g := []) (K := []) (by decide +kernel) rfl rfl rfl rfl jk0 ?_
      cases h
      exact ev_iret (by decide +kernel) rfl rfl rfl rfl
    · replace h := jpos c10 h
      refine ev_seg (o := 9) (nL := 7) (q := 63) (xs := [(.aload_n 0, 1, 0, 0, .null), (.getfield 29, 3, 9, 3, .ref 1), (.aload_n 0, 1, 0, 0, .null), (.getfield 12, 3, 9, 0, .ref 6), (.iload 5, 2, 5, 0, .null), (.iload_n 1, 1, 1, 0, .null), (.iload_n 2, 1, 2, 0, .null)]) (L' := [some (.ref 2), some (.int x1), some (.int x2), some (.int x3), some (.int x4), some (.int x5), none]) (st' := [.int x2, .int x1, .int x5, .ref 3, .ref 83]) (w' := q3.2) (g := []) (K := [(3, 6), (2, 9), (83, 1), (2, 9)]) (by decide +kernel) rfl rfl rfl rfl (jk1 (kz_3 hk) (jk1 (kz_2 hk) (jk1 (kz_83 hk) (jk1 (kz_2 hk) jk0)))) ?_
      obtain ⟨q4, hq4, h⟩ := jbe h
      refine ev_callV (ci := 1) (a := 83) (y2 := y_Knowing_walk) (o := 9) (idx := 247) (d2 := d_Knowing_walk) (n := 4) (mc2 := 0) (ms2 := 0) (As := [.ref 3, .int x5, .int x1, .int x2]) (st := []) (res2 := (none, (jRx kk), q4)) (by decide +kernel) rfl lk_9_247 mo_Knowing_walk mv_Knowing_walk ⟨Nat.le_of_ble_eq_true rfl, Nat.le_of_ble_eq_true rfl⟩ rfl rfl (kz_83 hk) (by decide) rfl (Nat.le_of_ble_eq_true rfl) ⟨Nat.le_refl _, Nat.le_refl _⟩ hG (e_Knowing_walk hG hk hq4) ?_
      refine ev_seg (o := 9) (nL := 7) (q := 69) (xs := [(.iconst 0, 1, 0, 0, .int 0), (.istore 6, 2, 6, 0, .null)]) (L' := [some (.ref 2), some (.int x1), some (.int x2), some (.int x3), some (.int x4), some (.int x5), some (.int 0)]) (st' := []) (w' := q4) (g := []) (K := []) (by decide +kernel) rfl rfl rfl rfl jk0 ?_
      refine ev_mask [true, true, true, true, true, true, true] ?_
      exact t_Count_doubt_h69 hG hk ih jfu _ _ _ _ _ _ _ _ h
def f_Count_doubt (x1 : Int32) (x2 : Int32) (x3 : Int32) (w : jW) : Option (Int32 × jW) :=
  Option.bind (f_Count_isKnowable 0 0 x1 x2 w) fun q1 =>
  if q1.1 = 0 then
    some ((-1), q1.2)
  else
    if x3 < 0 then
      some ((-1), q1.2)
    else
      Option.bind (f_Knowing_hear x1 x2 q1.2) fun q2 =>
      f_Count_doubt_h36 jfu x1 x2 x3 0 0 q2
set_option maxRecDepth 20000 in
theorem e_Count_doubt {l : Launch} {G : jG} (hG : jX G) {kk : Nat} (hk : 93 ≤ kk) {x1 : Int32} {x2 : Int32} {x3 : Int32} {w : jW} {z : (Int32 × jW)} (h : f_Count_doubt x1 x2 x3 w = some z) : Ct l G y_Count_doubt d_Count_doubt 0 0 [.ref 2, .int x1, .int x2, .int x3] (jRx kk) w (some (.int z.1), (jRx kk), z.2) := by
  rw [f_Count_doubt] at h
  refine Ct.of (L := [some (.ref 2), some (.int x1), some (.int x2), some (.int x3), none, none, none]) (by decide) (Nat.le_of_ble_eq_true rfl) rfl ?_
  refine ev_seg (o := 9) (nL := 7) (q := 5) (xs := [(.aload_n 0, 1, 0, 0, .null), (.iconst 0, 1, 0, 0, .int 0), (.iconst 0, 1, 0, 0, .int 0), (.iload_n 1, 1, 1, 0, .null), (.iload_n 2, 1, 2, 0, .null)]) (L' := [some (.ref 2), some (.int x1), some (.int x2), some (.int x3), none, none, none]) (st' := [.int x2, .int x1, .int 0, .int 0, .ref 2]) (w' := w) (g := []) (K := []) (by decide +kernel) rfl rfl rfl rfl jk0 ?_
  obtain ⟨q1, hq1, h⟩ := jbe h
  refine ev_callV (ci := 9) (a := 2) (y2 := y_Count_isKnowable) (o := 9) (idx := 243) (d2 := d_Count_isKnowable) (n := 4) (mc2 := 0) (ms2 := 0) (As := [.int 0, .int 0, .int x1, .int x2]) (st := []) (res2 := (some (.int q1.1), (jRx kk), q1.2)) (by decide +kernel) rfl lk_9_243 mo_Count_isKnowable mv_Count_isKnowable ⟨Nat.le_of_ble_eq_true rfl, Nat.le_of_ble_eq_true rfl⟩ rfl rfl (kz_2 hk) (by decide) rfl (Nat.le_of_ble_eq_true rfl) ⟨Nat.le_refl _, Nat.le_refl _⟩ hG (e_Count_isKnowable hG hk hq1) ?_
  refine ev_if_eq (off := 7) (tgt := 15) (by decide +kernel) (by decide) (fun c12 => ?_) (fun c12 => ?_)
  · replace h := jpos c12 h
    refine ev_seg (o := 9) (nL := 7) (q := 16) (xs := [(.iconst (-1), 1, 0, 0, .int (-1))]) (L' := [some (.ref 2), some (.int x1), some (.int x2), some (.int x3), none, none, none]) (st' := [.int (-1)]) (w' := q1.2) (g := []) (K := []) (by decide +kernel) rfl rfl rfl rfl jk0 ?_
    cases h
    exact ev_iret (by decide +kernel) rfl rfl rfl rfl
  · replace h := jneg c12 h
    refine ev_seg (o := 9) (nL := 7) (q := 12) (xs := [(.iload_n 3, 1, 3, 0, .null)]) (L' := [some (.ref 2), some (.int x1), some (.int x2), some (.int x3), none, none, none]) (st' := [.int x3]) (w' := q1.2) (g := []) (K := []) (by decide +kernel) rfl rfl rfl rfl jk0 ?_
    refine ev_if_ge (off := 5) (tgt := 17) (by decide +kernel) (by decide) (fun c11 => ?_) (fun c11 => ?_)
    · replace h := jneg c11 h
      refine ev_seg (o := 9) (nL := 7) (q := 27) (xs := [(.aload_n 0, 1, 0, 0, .null), (.getfield 29, 3, 9, 3, .ref 1), (.aload_n 0, 1, 0, 0, .null), (.getfield 12, 3, 9, 0, .ref 6), (.iload_n 1, 1, 1, 0, .null), (.iload_n 2, 1, 2, 0, .null)]) (L' := [some (.ref 2), some (.int x1), some (.int x2), some (.int x3), none, none, none]) (st' := [.int x2, .int x1, .ref 3, .ref 83]) (w' := q1.2) (g := []) (K := [(3, 6), (2, 9), (83, 1), (2, 9)]) (by decide +kernel) rfl rfl rfl rfl (jk1 (kz_3 hk) (jk1 (kz_2 hk) (jk1 (kz_83 hk) (jk1 (kz_2 hk) jk0)))) ?_
      obtain ⟨q2, hq2, h⟩ := jbe h
      refine ev_callV (ci := 1) (a := 83) (y2 := y_Knowing_hear) (o := 9) (idx := 206) (d2 := d_Knowing_hear) (n := 3) (mc2 := 0) (ms2 := 0) (As := [.ref 3, .int x1, .int x2]) (st := []) (res2 := (none, (jRx kk), q2)) (by decide +kernel) rfl lk_9_206 mo_Knowing_hear mv_Knowing_hear ⟨Nat.le_of_ble_eq_true rfl, Nat.le_of_ble_eq_true rfl⟩ rfl rfl (kz_83 hk) (by decide) rfl (Nat.le_of_ble_eq_true rfl) ⟨Nat.le_refl _, Nat.le_refl _⟩ hG (e_Knowing_hear hG hk hq2) ?_
      refine ev_seg (o := 9) (nL := 7) (q := 36) (xs := [(.iconst 0, 1, 0, 0, .int 0), (.istore 4, 2, 4, 0, .null), (.iconst 0, 1, 0, 0, .int 0), (.istore 5, 2, 5, 0, .null)]) (L' := [some (.ref 2), some (.int x1), some (.int x2), some (.int x3), some (.int 0), some (.int 0), none]) (st' := []) (w' := q2) (g := []) (K := []) (by decide +kernel) rfl rfl rfl rfl jk0 ?_
      refine ev_mask [true, true, true, true, true, true, false] ?_
      exact t_Count_doubt_h36 hG hk jfu _ _ _ _ _ _ _ h
    · replace h := jpos c11 h
      refine ev_seg (o := 9) (nL := 7) (q := 16) (xs := [(.iconst (-1), 1, 0, 0, .int (-1))]) (L' := [some (.ref 2), some (.int x1), some (.int x2), some (.int x3), none, none, none]) (st' := [.int (-1)]) (w' := q1.2) (g := []) (K := []) (by decide +kernel) rfl rfl rfl rfl jk0 ?_
      cases h
      exact ev_iret (by decide +kernel) rfl rfl rfl rfl
def f_Count_chance (x1 : Int32) (x2 : Int32) (w : jW) : Option (Int32 × jW) :=
  Option.bind (f_Rows_has 6 x1 w) fun q1 =>
  if q1.1 = 0 then
    some (0, q1.2)
  else
    if x2 < 1 then
      some (0, q1.2)
    else
      if x2 ≤ 50 then
        Option.bind (f_Rows_put 6 x1 4 x2 q1.2) fun q2 =>
        some (1, q2)
      else
        some (0, q1.2)
set_option maxRecDepth 20000 in
theorem e_Count_chance {l : Launch} {G : jG} (hG : jX G) {kk : Nat} (hk : 93 ≤ kk) {x1 : Int32} {x2 : Int32} {w : jW} {z : (Int32 × jW)} (h : f_Count_chance x1 x2 w = some z) : Ct l G y_Count_chance d_Count_chance 0 0 [.ref 2, .int x1, .int x2] (jRx kk) w (some (.int z.1), (jRx kk), z.2) := by
  rw [f_Count_chance] at h
  refine Ct.of (L := [some (.ref 2), some (.int x1), some (.int x2)]) (by decide) (Nat.le_of_ble_eq_true rfl) rfl ?_
  refine ev_seg (o := 9) (nL := 3) (q := 8) (xs := [(.aload_n 0, 1, 0, 0, .null), (.getfield 12, 3, 9, 0, .ref 6), (.getfield 58, 3, 6, 6, .ref 3), (.iload_n 1, 1, 1, 0, .null)]) (L' := [some (.ref 2), some (.int x1), some (.int x2)]) (st' := [.int x1, .ref 6]) (w' := w) (g := []) (K := [(6, 3), (3, 6), (3, 6), (2, 9)]) (by decide +kernel) rfl rfl rfl rfl (jk1 (kz_6 hk) (jk1 (kz_3 hk) (jk1 (kz_3 hk) (jk1 (kz_2 hk) jk0)))) ?_
  obtain ⟨q1, hq1, h⟩ := jbe h
  refine ev_callV (ci := 3) (a := 6) (y2 := y_Rows_has) (o := 9) (idx := 80) (d2 := d_Rows_has) (n := 1) (mc2 := 0) (ms2 := 0) (As := [.int x1]) (st := []) (res2 := (some (.int q1.1), (jRx kk), q1.2)) (by decide +kernel) rfl lk_9_80 mo_Rows_has mv_Rows_has ⟨Nat.le_of_ble_eq_true rfl, Nat.le_of_ble_eq_true rfl⟩ rfl rfl (kz_6 hk) (by decide) rfl (Nat.le_of_ble_eq_true rfl) ⟨Nat.le_refl _, Nat.le_refl _⟩ hG (e_Rows_has hG hk (kz_6 hk) hq1) ?_
  refine ev_if_eq (off := 14) (tgt := 25) (by decide +kernel) (by decide) (fun c5 => ?_) (fun c5 => ?_)
  · replace h := jpos c5 h
    refine ev_seg (o := 9) (nL := 3) (q := 26) (xs := [(.iconst 0, 1, 0, 0, .int 0)]) (L' := [some (.ref 2), some (.int x1), some (.int x2)]) (st' := [.int 0]) (w' := q1.2) (g := []) (K := []) (by decide +kernel) rfl rfl rfl rfl jk0 ?_
    cases h
    exact ev_zret (by decide +kernel) rfl rfl rfl rfl rfl
  · replace h := jneg c5 h
    refine ev_seg (o := 9) (nL := 3) (q := 16) (xs := [(.iload_n 2, 1, 2, 0, .null), (.iconst 1, 1, 0, 0, .int 1)]) (L' := [some (.ref 2), some (.int x1), some (.int x2)]) (st' := [.int 1, .int x2]) (w' := q1.2) (g := []) (K := []) (by decide +kernel) rfl rfl rfl rfl jk0 ?_
    refine ev_icmp_lt (off := 9) (tgt := 25) (by decide +kernel) (by decide) (fun c4 => ?_) (fun c4 => ?_)
    · replace h := jpos c4 h
      refine ev_seg (o := 9) (nL := 3) (q := 26) (xs := [(.iconst 0, 1, 0, 0, .int 0)]) (L' := [some (.ref 2), some (.int x1), some (.int x2)]) (st' := [.int 0]) (w' := q1.2) (g := []) (K := []) (by decide +kernel) rfl rfl rfl rfl jk0 ?_
      cases h
      exact ev_zret (by decide +kernel) rfl rfl rfl rfl rfl
    · replace h := jneg c4 h
      refine ev_seg (o := 9) (nL := 3) (q := 22) (xs := [(.iload_n 2, 1, 2, 0, .null), (.bipush 50, 2, 0, 0, .int 50)]) (L' := [some (.ref 2), some (.int x1), some (.int x2)]) (st' := [.int 50, .int x2]) (w' := q1.2) (g := []) (K := []) (by decide +kernel) rfl rfl rfl rfl jk0 ?_
      refine ev_icmp_le (off := 5) (tgt := 27) (by decide +kernel) (by decide) (fun c3 => ?_) (fun c3 => ?_)
      · replace h := jpos c3 h
        refine ev_seg (o := 9) (nL := 3) (q := 37) (xs := [(.aload_n 0, 1, 0, 0, .null), (.getfield 12, 3, 9, 0, .ref 6), (.getfield 58, 3, 6, 6, .ref 3), (.iload_n 1, 1, 1, 0, .null), (.iconst 4, 1, 0, 0, .int 4), (.iload_n 2, 1, 2, 0, .null)]) (L' := [some (.ref 2), some (.int x1), some (.int x2)]) (st' := [.int x2, .int 4, .int x1, .ref 6]) (w' := q1.2) (g := []) (K := [(6, 3), (3, 6), (3, 6), (2, 9)]) (by decide +kernel) rfl rfl rfl rfl (jk1 (kz_6 hk) (jk1 (kz_3 hk) (jk1 (kz_3 hk) (jk1 (kz_2 hk) jk0)))) ?_
        obtain ⟨q2, hq2, h⟩ := jbe h
        refine ev_callV (ci := 3) (a := 6) (y2 := y_Rows_put) (o := 9) (idx := 72) (d2 := d_Rows_put) (n := 3) (mc2 := 0) (ms2 := 0) (As := [.int x1, .int 4, .int x2]) (st := []) (res2 := (none, (jRx kk), q2)) (by decide +kernel) rfl lk_9_72 mo_Rows_put mv_Rows_put ⟨Nat.le_of_ble_eq_true rfl, Nat.le_of_ble_eq_true rfl⟩ rfl rfl (kz_6 hk) (by decide) rfl (Nat.le_of_ble_eq_true rfl) ⟨Nat.le_refl _, Nat.le_refl _⟩ hG (e_Rows_put hG hk (kz_6 hk) hq2) ?_
        refine ev_seg (o := 9) (nL := 3) (q := 41) (xs := [(.iconst 1, 1, 0, 0, .int 1)]) (L' := [some (.ref 2), some (.int x1), some (.int x2)]) (st' := [.int 1]) (w' := q2) (g := []) (K := []) (by decide +kernel) rfl rfl rfl rfl jk0 ?_
        cases h
        exact ev_zret (by decide +kernel) rfl rfl rfl rfl rfl
      · replace h := jneg c3 h
        refine ev_seg (o := 9) (nL := 3) (q := 26) (xs := [(.iconst 0, 1, 0, 0, .int 0)]) (L' := [some (.ref 2), some (.int x1), some (.int x2)]) (st' := [.int 0]) (w' := q1.2) (g := []) (K := []) (by decide +kernel) rfl rfl rfl rfl jk0 ?_
        cases h
        exact ev_zret (by decide +kernel) rfl rfl rfl rfl rfl
def f_Shares_reduce_j61 (x3 : Int64) (x5 : Int64) (s0 : Int64) (w : jW) : Option jW :=
  jlw (w.1, (jup w.2 87 4 s0)) fun w1 =>
  if (lg_cmp x5 0) ≤ 0 then
    jlw (w1.1, (jup w1.2 87 5 x3)) fun w2 =>
    some w2
  else
    if jal [!(x5 == 0)] = true then
    jlw (w1.1, (jup w1.2 87 5 (x3 / x5))) fun w4 =>
    some w4
    else none
set_option maxRecDepth 20000 in
theorem t_Shares_reduce_j61 {l : Launch} {G : jG} (hG : jX G) {kk : Nat} (hk : 93 ≤ kk) {x3 : Int64} {x5 : Int64} {s0 : Int64} {w : jW} {z : jW} (h : f_Shares_reduce_j61 x3 x5 s0 w = some z) : Ev l G (jrm d_Shares_reduce 0 0) y_Shares_reduce (none, (jRx kk), z) 0 0 0 0 61 [some (.ref 87), none, none, some (.long x3), none, some (.long x5), none, none, none, none, none, none] [.long s0, .ref 87] (jRx kk) w := by
  rw [f_Shares_reduce_j61] at h
  refine ev_seg (o := 5) (nL := 12) (q := 64) (xs := [(.putfield 53, 3, 5, 4, .long 0)]) (L' := [some (.ref 87), none, none, some (.long x3), none, some (.long x5), none, none, none, none, none, none]) (st' := []) (w' := (w.1, (jup w.2 87 4 s0))) (g := []) (K := [(87, 5)]) (by decide +kernel) rfl rfl rfl rfl (jk1 (kz_87 hk) jk0) ?_
  refine jlw_c (P := fun w1 => Ev l G (jrm d_Shares_reduce 0 0) y_Shares_reduce (none, (jRx kk), z) 0 0 0 0 64 [some (.ref 87), none, none, some (.long x3), none, some (.long x5), none, none, none, none, none, none] [] (jRx kk) w1) h fun w1 h => ?_
  refine ev_seg (o := 5) (nL := 12) (q := 69) (xs := [(.aload_n 0, 1, 0, 0, .null), (.lload 5, 2, 5, 0, .null), (.lconst 0, 1, 0, 0, .long 0), (.lcmp, 1, 0, 0, .null)]) (L' := [some (.ref 87), none, none, some (.long x3), none, some (.long x5), none, none, none, none, none, none]) (st' := [.int (lg_cmp x5 0), .ref 87]) (w' := w1) (g := []) (K := []) (by decide +kernel) rfl rfl rfl rfl jk0 ?_
  refine ev_if_le (off := 10) (tgt := 79) (by decide +kernel) (by decide) (fun c5 => ?_) (fun c5 => ?_)
  · replace h := jpos c5 h
    refine ev_seg (o := 5) (nL := 12) (q := 83) (xs := [(.lload_n 3, 1, 3, 0, .null), (.putfield 57, 3, 5, 5, .long 0)]) (L' := [some (.ref 87), none, none, some (.long x3), none, some (.long x5), none, none, none, none, none, none]) (st' := []) (w' := (w1.1, (jup w1.2 87 5 x3))) (g := []) (K := [(87, 5)]) (by decide +kernel) rfl rfl rfl rfl (jk1 (kz_87 hk) jk0) ?_
    refine jlw_c (P := fun w2 => Ev l G (jrm d_Shares_reduce 0 0) y_Shares_reduce (none, (jRx kk), z) 0 0 0 0 83 [some (.ref 87), none, none, some (.long x3), none, some (.long x5), none, none, none, none, none, none] [] (jRx kk) w2) h fun w2 h => ?_
    cases h
    exact ev_vret (by decide +kernel) rfl rfl rfl rfl
  · replace h := jneg c5 h
    obtain ⟨hg3, h⟩ := jgd h
    refine ev_seg (o := 5) (nL := 12) (q := 83) (xs := [(.lload_n 3, 1, 3, 0, .null), (.lload 5, 2, 5, 0, .null), (.ldiv, 1, 0, 0, .null), (.goto 4, 3, 0, 0, .null), (.putfield 57, 3, 5, 5, .long 0)]) (L' := [some (.ref 87), none, none, some (.long x3), none, some (.long x5), none, none, none, none, none, none]) (st' := []) (w' := (w1.1, (jup w1.2 87 5 (x3 / x5)))) (g := [!(x5 == 0)]) (K := [(87, 5)]) (by decide +kernel) rfl rfl rfl hg3 (jk1 (kz_87 hk) jk0) ?_
    refine jlw_c (P := fun w4 => Ev l G (jrm d_Shares_reduce 0 0) y_Shares_reduce (none, (jRx kk), z) 0 0 0 0 83 [some (.ref 87), none, none, some (.long x3), none, some (.long x5), none, none, none, none, none, none] [] (jRx kk) w4) h fun w4 h => ?_
    cases h
    exact ev_vret (by decide +kernel) rfl rfl rfl rfl
def f_Shares_reduce_j45 (x1 : Int64) (x3 : Int64) (x5 : Int64) (w : jW) : Option jW :=
  if (lg_cmp x5 0) ≤ 0 then
    f_Shares_reduce_j61 x3 x5 x1 w
  else
    if jal [!(x5 == 0)] = true then
    f_Shares_reduce_j61 x3 x5 (x1 / x5) w
    else none
set_option maxRecDepth 20000 in
theorem t_Shares_reduce_j45 {l : Launch} {G : jG} (hG : jX G) {kk : Nat} (hk : 93 ≤ kk) {x1 : Int64} {x3 : Int64} {x5 : Int64} {w : jW} {z : jW} (h : f_Shares_reduce_j45 x1 x3 x5 w = some z) : Ev l G (jrm d_Shares_reduce 0 0) y_Shares_reduce (none, (jRx kk), z) 0 0 0 0 45 [some (.ref 87), some (.long x1), none, some (.long x3), none, some (.long x5), none, none, none, none, none, none] [] (jRx kk) w := by
  rw [f_Shares_reduce_j45] at h
  refine ev_seg (o := 5) (nL := 12) (q := 50) (xs := [(.aload_n 0, 1, 0, 0, .null), (.lload 5, 2, 5, 0, .null), (.lconst 0, 1, 0, 0, .long 0), (.lcmp, 1, 0, 0, .null)]) (L' := [some (.ref 87), some (.long x1), none, some (.long x3), none, some (.long x5), none, none, none, none, none, none]) (st' := [.int (lg_cmp x5 0), .ref 87]) (w' := w) (g := []) (K := []) (by decide +kernel) rfl rfl rfl rfl jk0 ?_
  refine ev_if_le (off := 10) (tgt := 60) (by decide +kernel) (by decide) (fun c7 => ?_) (fun c7 => ?_)
  · replace h := jpos c7 h
    refine ev_seg (o := 5) (nL := 12) (q := 61) (xs := [(.lload_n 1, 1, 1, 0, .null)]) (L' := [some (.ref 87), some (.long x1), none, some (.long x3), none, some (.long x5), none, none, none, none, none, none]) (st' := [.long x1, .ref 87]) (w' := w) (g := []) (K := []) (by decide +kernel) rfl rfl rfl rfl jk0 ?_
    refine ev_mask [true, false, false, true, false, true, false, false, false, false, false, false] ?_
    exact t_Shares_reduce_j61 hG hk h
  · replace h := jneg c7 h
    obtain ⟨hg6, h⟩ := jgd h
    refine ev_seg (o := 5) (nL := 12) (q := 61) (xs := [(.lload_n 1, 1, 1, 0, .null), (.lload 5, 2, 5, 0, .null), (.ldiv, 1, 0, 0, .null), (.goto 4, 3, 0, 0, .null)]) (L' := [some (.ref 87), some (.long x1), none, some (.long x3), none, some (.long x5), none, none, none, none, none, none]) (st' := [.long (x1 / x5), .ref 87]) (w' := w) (g := [!(x5 == 0)]) (K := []) (by decide +kernel) rfl rfl rfl hg6 jk0 ?_
    refine ev_mask [true, false, false, true, false, true, false, false, false, false, false, false] ?_
    exact t_Shares_reduce_j61 hG hk h
def f_Shares_reduce_h9 : Nat → Int64 → Int64 → Int64 → Int64 → Int32 → jW → Option jW
  | 0, _, _, _, _, _, _ => none
  | n + 1, x1, x3, x5, x7, x9, w =>
  if x9 < 1000 then
    if (lg_cmp x7 0) = 0 then
      f_Shares_reduce_j45 x1 x3 x5 w
    else
      if jal [!(x7 == 0)] = true then
      (f_Shares_reduce_h9 n) x1 x3 x7 (x5 - x5 / x7 * x7) (x9 + 1) w
      else none
  else
    f_Shares_reduce_j45 x1 x3 x5 w
set_option maxRecDepth 20000 in
theorem t_Shares_reduce_h9 {l : Launch} {G : jG} (hG : jX G) {kk : Nat} (hk : 93 ≤ kk) : ∀ (n : Nat) (x1 : Int64) (x3 : Int64) (x5 : Int64) (x7 : Int64) (x9 : Int32) (w : jW) (z : jW), f_Shares_reduce_h9 n x1 x3 x5 x7 x9 w = some z → Ev l G (jrm d_Shares_reduce 0 0) y_Shares_reduce (none, (jRx kk), z) 0 0 0 0 9 [some (.ref 87), some (.long x1), none, some (.long x3), none, some (.long x5), none, some (.long x7), none, some (.int x9), none, none] [] (jRx kk) w := by
  intro n
  induction n with
  | zero => intro x1 x3 x5 x7 x9 w z h; simp only [f_Shares_reduce_h9] at h; cases h
  | succ n ih =>
    intro x1 x3 x5 x7 x9 w z h
    rw [f_Shares_reduce_h9] at h
    refine ev_seg (o := 5) (nL := 12) (q := 14) (xs := [(.iload 9, 2, 9, 0, .null), (.sipush 1000, 3, 0, 0, .int 1000)]) (L' := [some (.ref 87), some (.long x1), none, some (.long x3), none, some (.long x5), none, some (.long x7), none, some (.int x9), none, none]) (st' := [.int 1000, .int x9]) (w' := w) (g := []) (K := []) (by decide +kernel) rfl rfl rfl rfl jk0 ?_
    refine ev_icmp_ge (off := 31) (tgt := 45) (by decide +kernel) (by decide) (fun c10 => ?_) (fun c10 => ?_)
    · replace h := jneg c10 h
      refine ev_mask [true, true, false, true, false, true, false, false, false, false, false, false] ?_
      exact t_Shares_reduce_j45 hG hk h
    · replace h := jpos c10 h
      refine ev_seg (o := 5) (nL := 12) (q := 21) (xs := [(.lload 7, 2, 7, 0, .null), (.lconst 0, 1, 0, 0, .long 0), (.lcmp, 1, 0, 0, .null)]) (L' := [some (.ref 87), some (.long x1), none, some (.long x3), none, some (.long x5), none, some (.long x7), none, some (.int x9), none, none]) (st' := [.int (lg_cmp x7 0)]) (w' := w) (g := []) (K := []) (by decide +kernel) rfl rfl rfl rfl jk0 ?_
      refine ev_if_eq (off := 24) (tgt := 45) (by decide +kernel) (by decide) (fun c9 => ?_) (fun c9 => ?_)
      · replace h := jpos c9 h
        refine ev_mask [true, true, false, true, false, true, false, false, false, false, false, false] ?_
        exact t_Shares_reduce_j45 hG hk h
      · replace h := jneg c9 h
        obtain ⟨hg8, h⟩ := jgd h
        refine ev_seg (o := 5) (nL := 12) (q := 9) (xs := [(.lload 5, 2, 5, 0, .null), (.lload 7, 2, 7, 0, .null), (.lrem, 1, 0, 0, .null), (.lstore 10, 2, 10, 0, .null), (.lload 7, 2, 7, 0, .null), (.lstore 5, 2, 5, 0, .null), (.lload 10, 2, 10, 0, .null), (.lstore 7, 2, 7, 0, .null), (.iinc 9 1, 3, 9, 0, .int 1), (.goto (-33), 3, 0, 0, .null)]) (L' := [some (.ref 87), some (.long x1), none, some (.long x3), none, some (.long x7), none, some (.long (x5 - x5 / x7 * x7)), none, some (.int (x9 + 1)), some (.long (x5 - x5 / x7 * x7)), none]) (st' := []) (w' := w) (g := [!(x7 == 0)]) (K := []) (by decide +kernel) rfl rfl rfl hg8 jk0 ?_
        refine ev_mask [true, true, false, true, false, true, false, true, false, true, false, false] ?_
        exact ih _ _ _ _ _ _ _ h
def f_Shares_reduce (x1 : Int64) (x3 : Int64) (w : jW) : Option jW :=
  f_Shares_reduce_h9 jfu x1 x3 x1 x3 0 w
set_option maxRecDepth 20000 in
theorem e_Shares_reduce {l : Launch} {G : jG} (hG : jX G) {kk : Nat} (hk : 93 ≤ kk) {x1 : Int64} {x3 : Int64} {w : jW} {z : jW} (h : f_Shares_reduce x1 x3 w = some z) : Ct l G y_Shares_reduce d_Shares_reduce 0 0 [.ref 87, .long x1, .long x3] (jRx kk) w (none, (jRx kk), z) := by
  rw [f_Shares_reduce] at h
  refine Ct.of (L := [some (.ref 87), some (.long x1), none, some (.long x3), none, none, none, none, none, none, none, none]) (by decide) (Nat.le_of_ble_eq_true rfl) rfl ?_
  refine ev_seg (o := 5) (nL := 12) (q := 9) (xs := [(.lload_n 1, 1, 1, 0, .null), (.lstore 5, 2, 5, 0, .null), (.lload_n 3, 1, 3, 0, .null), (.lstore 7, 2, 7, 0, .null), (.iconst 0, 1, 0, 0, .int 0), (.istore 9, 2, 9, 0, .null)]) (L' := [some (.ref 87), some (.long x1), none, some (.long x3), none, some (.long x1), none, some (.long x3), none, some (.int 0), none, none]) (st' := []) (w' := w) (g := []) (K := []) (by decide +kernel) rfl rfl rfl rfl jk0 ?_
  refine ev_mask [true, true, false, true, false, true, false, true, false, true, false, false] ?_
  exact t_Shares_reduce_h9 hG hk jfu _ _ _ _ _ _ _ h

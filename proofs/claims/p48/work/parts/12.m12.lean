def f_Shares_evaluate_j74 (x1 : Int64) (x3 : Int64) (x5 : Int32) (w : jW) : Option jW :=
  if (lg_cmp ((Int32.toInt64 (w.1 87 3)) * x1) ((Int32.toInt64 x5) * x3)) ≤ 0 then
    Option.bind (f_Shares_reduce ((Int32.toInt64 (w.1 87 3)) * x1) x3 w) fun q2 =>
    some q2
  else
    Option.bind (f_Shares_reduce (Int32.toInt64 x5) 1 w) fun q1 =>
    some q1
set_option maxRecDepth 20000 in
theorem t_Shares_evaluate_j74 {l : Launch} {G : jG} (hG : jX G) {kk : Nat} (hk : 93 ≤ kk) {x1 : Int64} {x3 : Int64} {x5 : Int32} {w : jW} {z : jW} (h : f_Shares_evaluate_j74 x1 x3 x5 w = some z) : Ev l G (jrm d_Shares_evaluate 0 0) y_Shares_evaluate (none, (jRx kk), z) 0 0 0 0 74 [some (.ref 87), some (.long x1), none, some (.long x3), none, some (.int x5), none] [] (jRx kk) w := by
  rw [f_Shares_evaluate_j74] at h
  refine ev_seg (o := 5) (nL := 7) (q := 87) (xs := [(.aload_n 0, 1, 0, 0, .null), (.getfield 38, 3, 5, 3, .int 0), (.i2l, 1, 0, 0, .null), (.lload_n 1, 1, 1, 0, .null), (.lmul, 1, 0, 0, .null), (.iload 5, 2, 5, 0, .null), (.i2l, 1, 0, 0, .null), (.lload_n 3, 1, 3, 0, .null), (.lmul, 1, 0, 0, .null), (.lcmp, 1, 0, 0, .null)]) (L' := [some (.ref 87), some (.long x1), none, some (.long x3), none, some (.int x5), none]) (st' := [.int (lg_cmp ((Int32.toInt64 (w.1 87 3)) * x1) ((Int32.toInt64 x5) * x3))]) (w' := w) (g := []) (K := [(87, 5)]) (by decide +kernel) rfl rfl rfl rfl (jk1 (kz_87 hk) jk0) ?_
  refine ev_if_gt (off := 18) (tgt := 105) (by decide +kernel) (by decide) (fun c3 => ?_) (fun c3 => ?_)
  · replace h := jneg c3 h
    refine ev_seg (o := 5) (nL := 7) (q := 110) (xs := [(.aload_n 0, 1, 0, 0, .null), (.iload 5, 2, 5, 0, .null), (.i2l, 1, 0, 0, .null), (.lconst 1, 1, 0, 0, .long 1)]) (L' := [some (.ref 87), some (.long x1), none, some (.long x3), none, some (.int x5), none]) (st' := [.long 1, .long (Int32.toInt64 x5), .ref 87]) (w' := w) (g := []) (K := []) (by decide +kernel) rfl rfl rfl rfl jk0 ?_
    obtain ⟨q1, hq1, h⟩ := jbe h
    refine ev_callV (ci := 5) (a := 87) (y2 := y_Shares_reduce) (o := 5) (idx := 49) (d2 := d_Shares_reduce) (n := 2) (mc2 := 0) (ms2 := 0) (As := [.long (Int32.toInt64 x5), .long 1]) (st := []) (res2 := (none, (jRx kk), q1)) (by decide +kernel) rfl lk_5_49 mo_Shares_reduce mv_Shares_reduce ⟨Nat.le_of_ble_eq_true rfl, Nat.le_of_ble_eq_true rfl⟩ rfl rfl (kz_87 hk) (by decide) rfl (Nat.le_of_ble_eq_true rfl) ⟨Nat.le_refl _, Nat.le_refl _⟩ hG (e_Shares_reduce hG hk hq1) ?_
    cases h
    exact ev_vret (by decide +kernel) rfl rfl rfl rfl
  · replace h := jpos c3 h
    refine ev_seg (o := 5) (nL := 7) (q := 99) (xs := [(.aload_n 0, 1, 0, 0, .null), (.aload_n 0, 1, 0, 0, .null), (.getfield 38, 3, 5, 3, .int 0), (.i2l, 1, 0, 0, .null), (.lload_n 1, 1, 1, 0, .null), (.lmul, 1, 0, 0, .null), (.lload_n 3, 1, 3, 0, .null)]) (L' := [some (.ref 87), some (.long x1), none, some (.long x3), none, some (.int x5), none]) (st' := [.long x3, .long ((Int32.toInt64 (w.1 87 3)) * x1), .ref 87]) (w' := w) (g := []) (K := [(87, 5)]) (by decide +kernel) rfl rfl rfl rfl (jk1 (kz_87 hk) jk0) ?_
    obtain ⟨q2, hq2, h⟩ := jbe h
    refine ev_callV (ci := 5) (a := 87) (y2 := y_Shares_reduce) (o := 5) (idx := 49) (d2 := d_Shares_reduce) (n := 2) (mc2 := 0) (ms2 := 0) (As := [.long ((Int32.toInt64 (w.1 87 3)) * x1), .long x3]) (st := []) (res2 := (none, (jRx kk), q2)) (by decide +kernel) rfl lk_5_49 mo_Shares_reduce mv_Shares_reduce ⟨Nat.le_of_ble_eq_true rfl, Nat.le_of_ble_eq_true rfl⟩ rfl rfl (kz_87 hk) (by decide) rfl (Nat.le_of_ble_eq_true rfl) ⟨Nat.le_refl _, Nat.le_refl _⟩ hG (e_Shares_reduce hG hk hq2) ?_
    refine ev_seg (o := 5) (nL := 7) (q := 113) (xs := [(.goto 11, 3, 0, 0, .null)]) (L' := [some (.ref 87), some (.long x1), none, some (.long x3), none, some (.int x5), none]) (st' := []) (w' := q2) (g := []) (K := []) (by decide +kernel) rfl rfl rfl rfl jk0 ?_
    cases h
    exact ev_vret (by decide +kernel) rfl rfl rfl rfl
def f_Shares_evaluate_h11 : Nat → Int64 → Int64 → Int32 → Int32 → jW → Option jW
  | 0, _, _, _, _, _ => none
  | n + 1, x1, x3, x5, x6, w =>
  if x6 < (w.1 87 2) then
    if x6 < (Int32.ofNat 5) then
      if jal [jin x6 5, jin x6 5, jin x6 5] = true then
      (f_Shares_evaluate_h11 n) (x1 * (Int32.toInt64 (w.1 88 (Int32.toNatClampNeg x6)))) ((x3 * (Int32.toInt64 (w.1 88 (Int32.toNatClampNeg x6)))) + x1) (if (w.1 88 (Int32.toNatClampNeg x6)) < x5 then (w.1 88 (Int32.toNatClampNeg x6)) else x5) (x6 + 1) w
      else none
    else
      f_Shares_evaluate_j74 x1 x3 x5 w
  else
    f_Shares_evaluate_j74 x1 x3 x5 w
set_option maxRecDepth 20000 in
theorem t_Shares_evaluate_h11 {l : Launch} {G : jG} (hG : jX G) {kk : Nat} (hk : 93 ≤ kk) : ∀ (n : Nat) (x1 : Int64) (x3 : Int64) (x5 : Int32) (x6 : Int32) (w : jW) (z : jW), f_Shares_evaluate_h11 n x1 x3 x5 x6 w = some z → Ev l G (jrm d_Shares_evaluate 0 0) y_Shares_evaluate (none, (jRx kk), z) 0 0 0 0 11 [some (.ref 87), some (.long x1), none, some (.long x3), none, some (.int x5), some (.int x6)] [] (jRx kk) w := by
  intro n
  induction n with
  | zero => intro x1 x3 x5 x6 w z h; simp only [f_Shares_evaluate_h11] at h; cases h
  | succ n ih =>
    intro x1 x3 x5 x6 w z h
    rw [f_Shares_evaluate_h11] at h
    refine ev_seg (o := 5) (nL := 7) (q := 17) (xs := [(.iload 6, 2, 6, 0, .null), (.aload_n 0, 1, 0, 0, .null), (.getfield 30, 3, 5, 2, .int 0)]) (L' := [some (.ref 87), some (.long x1), none, some (.long x3), none, some (.int x5), some (.int x6)]) (st' := [.int (w.1 87 2), .int x6]) (w' := w) (g := []) (K := [(87, 5)]) (by decide +kernel) rfl rfl rfl rfl (jk1 (kz_87 hk) jk0) ?_
    refine ev_icmp_ge (off := 57) (tgt := 74) (by decide +kernel) (by decide) (fun c6 => ?_) (fun c6 => ?_)
    · replace h := jneg c6 h
      refine ev_mask [true, true, false, true, false, true, false] ?_
      exact t_Shares_evaluate_j74 hG hk h
    · replace h := jpos c6 h
      refine ev_seg (o := 5) (nL := 7) (q := 27) (xs := [(.iload 6, 2, 6, 0, .null), (.aload_n 0, 1, 0, 0, .null), (.getfield 9, 3, 5, 0, .ref 20), (.arraylength, 1, 20, 0, .null)]) (L' := [some (.ref 87), some (.long x1), none, some (.long x3), none, some (.int x5), some (.int x6)]) (st' := [.int (Int32.ofNat 5), .int x6]) (w' := w) (g := []) (K := [(88, 20), (88, 20), (87, 5)]) (by decide +kernel) rfl rfl rfl rfl (jk1 (kz_88 hk) (jk1 (kz_88 hk) (jk1 (kz_87 hk) jk0))) ?_
      refine ev_icmp_ge (off := 47) (tgt := 74) (by decide +kernel) (by decide) (fun c5 => ?_) (fun c5 => ?_)
      · replace h := jneg c5 h
        refine ev_mask [true, true, false, true, false, true, false] ?_
        exact t_Shares_evaluate_j74 hG hk h
      · replace h := jpos c5 h
        obtain ⟨hg4, h⟩ := jgd h
        refine ev_seg (o := 5) (nL := 7) (q := 63) (xs := [(.lload_n 3, 1, 3, 0, .null), (.aload_n 0, 1, 0, 0, .null), (.getfield 9, 3, 5, 0, .ref 20), (.iload 6, 2, 6, 0, .null), (.iaload, 1, 0, 0, .null), (.i2l, 1, 0, 0, .null), (.lmul, 1, 0, 0, .null), (.lload_n 1, 1, 1, 0, .null), (.ladd, 1, 0, 0, .null), (.lstore_n 3, 1, 3, 0, .null), (.lload_n 1, 1, 1, 0, .null), (.aload_n 0, 1, 0, 0, .null), (.getfield 9, 3, 5, 0, .ref 20), (.iload 6, 2, 6, 0, .null), (.iaload, 1, 0, 0, .null), (.i2l, 1, 0, 0, .null), (.lmul, 1, 0, 0, .null), (.lstore_n 1, 1, 1, 0, .null), (.iload 5, 2, 5, 0, .null), (.aload_n 0, 1, 0, 0, .null), (.getfield 9, 3, 5, 0, .ref 20), (.iload 6, 2, 6, 0, .null), (.iaload, 1, 0, 0, .null)]) (L' := [some (.ref 87), some (.long (x1 * (Int32.toInt64 (w.1 88 (Int32.toNatClampNeg x6))))), none, some (.long ((x3 * (Int32.toInt64 (w.1 88 (Int32.toNatClampNeg x6)))) + x1)), none, some (.int x5), some (.int x6)]) (st' := [.int (w.1 88 (Int32.toNatClampNeg x6)), .int x5]) (w' := w) (g := [jin x6 5, jin x6 5, jin x6 5]) (K := [(88, 20), (88, 20), (87, 5), (88, 20), (88, 20), (87, 5), (88, 20), (88, 20), (87, 5)]) (by decide +kernel) rfl rfl rfl hg4 (jk1 (kz_88 hk) (jk1 (kz_88 hk) (jk1 (kz_87 hk) (jk1 (kz_88 hk) (jk1 (kz_88 hk) (jk1 (kz_87 hk) (jk1 (kz_88 hk) (jk1 (kz_88 hk) (jk1 (kz_87 hk) jk0))))))))) ?_
        refine ev_min (o := 5) (idx := 44) (by decide +kernel) rfl lk_5_44 ms_min hMath mc_min (Nat.le_of_ble_eq_true rfl) (Nat.le_of_ble_eq_true rfl) (Nat.le_of_ble_eq_true rfl) (Nat.le_of_ble_eq_true rfl) ?_
        refine ev_seg (o := 5) (nL := 7) (q := 11) (xs := [(.istore 5, 2, 5, 0, .null), (.iinc 6 1, 3, 6, 0, .int 1), (.goto (-60), 3, 0, 0, .null)]) (L' := [some (.ref 87), some (.long (x1 * (Int32.toInt64 (w.1 88 (Int32.toNatClampNeg x6))))), none, some (.long ((x3 * (Int32.toInt64 (w.1 88 (Int32.toNatClampNeg x6)))) + x1)), none, some (.int (if (w.1 88 (Int32.toNatClampNeg x6)) < x5 then (w.1 88 (Int32.toNatClampNeg x6)) else x5)), some (.int (x6 + 1))]) (st' := []) (w' := w) (g := []) (K := []) (by decide +kernel) rfl rfl rfl rfl jk0 ?_
        refine ev_mask [true, true, false, true, false, true, true] ?_
        exact ih _ _ _ _ _ _ h
def f_Shares_evaluate (w : jW) : Option jW :=
  f_Shares_evaluate_h11 jfu 1 0 50 0 w
set_option maxRecDepth 20000 in
theorem e_Shares_evaluate {l : Launch} {G : jG} (hG : jX G) {kk : Nat} (hk : 93 ≤ kk) {w : jW} {z : jW} (h : f_Shares_evaluate w = some z) : Ct l G y_Shares_evaluate d_Shares_evaluate 0 0 [.ref 87] (jRx kk) w (none, (jRx kk), z) := by
  rw [f_Shares_evaluate] at h
  refine Ct.of (L := [some (.ref 87), none, none, none, none, none, none]) (by decide) (Nat.le_of_ble_eq_true rfl) rfl ?_
  refine ev_seg (o := 5) (nL := 7) (q := 11) (xs := [(.lconst 1, 1, 0, 0, .long 1), (.lstore_n 1, 1, 1, 0, .null), (.lconst 0, 1, 0, 0, .long 0), (.lstore_n 3, 1, 3, 0, .null), (.bipush 50, 2, 0, 0, .int 50), (.istore 5, 2, 5, 0, .null), (.iconst 0, 1, 0, 0, .int 0), (.istore 6, 2, 6, 0, .null)]) (L' := [some (.ref 87), some (.long 1), none, some (.long 0), none, some (.int 50), some (.int 0)]) (st' := []) (w' := w) (g := []) (K := []) (by decide +kernel) rfl rfl rfl rfl jk0 ?_
  refine ev_mask [true, true, false, true, false, true, true] ?_
  exact t_Shares_evaluate_h11 hG hk jfu _ _ _ _ _ _ h
def f_Shares_take_h28 : Nat → Int32 → Int32 → Int32 → jW → Option (Int32 × jW)
  | 0, _, _, _, _ => none
  | n + 1, x2, x3, x4, w =>
  Option.bind (f_Rows_count 6 w) fun q3 =>
  if x4 < q3.1 then
    if ((x2 >>> (x4 &&& 31)) &&& 1) = 1 then
      if (q3.2.1 87 2) < (Int32.ofNat 5) then
        Option.bind (f_Rows_at 6 x4 4 q3.2) fun q8 =>
        if jal [jin (q3.2.1 87 2) 5] = true then
        jlw ((jup q8.2.1 88 (Int32.toNatClampNeg (q3.2.1 87 2)) q8.1), q8.2.2) fun w10 =>
        jlw ((jup w10.1 87 2 ((w10.1 87 2) + 1)), w10.2) fun w11 =>
        (f_Shares_take_h28 n) x2 x3 (x4 + 1) w11
        else none
      else
        some (0, q3.2)
    else
      (f_Shares_take_h28 n) x2 x3 (x4 + 1) q3.2
  else
    jlw ((jup q3.2.1 87 3 x3), q3.2.2) fun w4 =>
    if x3 < 1 then
      some (0, w4)
    else
      if x3 ≤ (w4.1 87 2) then
        Option.bind (f_Shares_evaluate w4) fun q5 =>
        some (1, q5)
      else
        some (0, w4)
set_option maxRecDepth 20000 in
theorem t_Shares_take_h28 {l : Launch} {G : jG} (hG : jX G) {kk : Nat} (hk : 93 ≤ kk) : ∀ (n : Nat) (x2 : Int32) (x3 : Int32) (x4 : Int32) (w : jW) (z : (Int32 × jW)), f_Shares_take_h28 n x2 x3 x4 w = some z → Ev l G (jrm d_Shares_take 0 0) y_Shares_take (some (.int z.1), (jRx kk), z.2) 0 0 0 0 28 [some (.ref 87), some (.ref 3), some (.int x2), some (.int x3), some (.int x4)] [] (jRx kk) w := by
  intro n
  induction n with
  | zero => intro x2 x3 x4 w z h; simp only [f_Shares_take_h28] at h; cases h
  | succ n ih =>
    intro x2 x3 x4 w z h
    rw [f_Shares_take_h28] at h
    refine ev_seg (o := 5) (nL := 5) (q := 34) (xs := [(.iload 4, 2, 4, 0, .null), (.aload_n 1, 1, 1, 0, .null), (.getfield 18, 3, 6, 6, .ref 3)]) (L' := [some (.ref 87), some (.ref 3), some (.int x2), some (.int x3), some (.int x4)]) (st' := [.ref 6, .int x4]) (w' := w) (g := []) (K := [(6, 3), (3, 6)]) (by decide +kernel) rfl rfl rfl rfl (jk1 (kz_6 hk) (jk1 (kz_3 hk) jk0)) ?_
    obtain ⟨q3, hq3, h⟩ := jbe h
    refine ev_callV (ci := 3) (a := 6) (y2 := y_Rows_count) (o := 5) (idx := 24) (d2 := d_Rows_count) (n := 0) (mc2 := 0) (ms2 := 0) (As := []) (st := [.int x4]) (res2 := (some (.int q3.1), (jRx kk), q3.2)) (by decide +kernel) rfl lk_5_24 mo_Rows_count mv_Rows_count ⟨Nat.le_of_ble_eq_true rfl, Nat.le_of_ble_eq_true rfl⟩ rfl rfl (kz_6 hk) (by decide) rfl (Nat.le_of_ble_eq_true rfl) ⟨Nat.le_refl _, Nat.le_refl _⟩ hG (e_Rows_count hG hk (kz_6 hk) hq3) ?_
    refine ev_icmp_ge (off := 62) (tgt := 99) (by decide +kernel) (by decide) (fun c14 => ?_) (fun c14 => ?_)
    · replace h := jneg c14 h
      refine ev_seg (o := 5) (nL := 5) (q := 104) (xs := [(.aload_n 0, 1, 0, 0, .null), (.iload_n 3, 1, 3, 0, .null), (.putfield 38, 3, 5, 3, .int 0)]) (L' := [some (.ref 87), some (.ref 3), some (.int x2), some (.int x3), some (.int x4)]) (st' := []) (w' := ((jup q3.2.1 87 3 x3), q3.2.2)) (g := []) (K := [(87, 5)]) (by decide +kernel) rfl rfl rfl rfl (jk1 (kz_87 hk) jk0) ?_
      refine jlw_c (P := fun w4 => Ev l G (jrm d_Shares_take 0 0) y_Shares_take (some (.int z.1), (jRx kk), z.2) 0 0 0 0 104 [some (.ref 87), some (.ref 3), some (.int x2), some (.int x3), some (.int x4)] [] (jRx kk) w4) h fun w4 h => ?_
      refine ev_seg (o := 5) (nL := 5) (q := 106) (xs := [(.iload_n 3, 1, 3, 0, .null), (.iconst 1, 1, 0, 0, .int 1)]) (L' := [some (.ref 87), some (.ref 3), some (.int x2), some (.int x3), some (.int x4)]) (st' := [.int 1, .int x3]) (w' := w4) (g := []) (K := []) (by decide +kernel) rfl rfl rfl rfl jk0 ?_
      refine ev_icmp_lt (off := 11) (tgt := 117) (by decide +kernel) (by decide) (fun c7 => ?_) (fun c7 => ?_)
      · replace h := jpos c7 h
        refine ev_seg (o := 5) (nL := 5) (q := 118) (xs := [(.iconst 0, 1, 0, 0, .int 0)]) (L' := [some (.ref 87), some (.ref 3), some (.int x2), some (.int x3), some (.int x4)]) (st' := [.int 0]) (w' := w4) (g := []) (K := []) (by decide +kernel) rfl rfl rfl rfl jk0 ?_
        cases h
        exact ev_zret (by decide +kernel) rfl rfl rfl rfl rfl
      · replace h := jneg c7 h
        refine ev_seg (o := 5) (nL := 5) (q := 114) (xs := [(.iload_n 3, 1, 3, 0, .null), (.aload_n 0, 1, 0, 0, .null), (.getfield 30, 3, 5, 2, .int 0)]) (L' := [some (.ref 87), some (.ref 3), some (.int x2), some (.int x3), some (.int x4)]) (st' := [.int (w4.1 87 2), .int x3]) (w' := w4) (g := []) (K := [(87, 5)]) (by decide +kernel) rfl rfl rfl rfl (jk1 (kz_87 hk) jk0) ?_
        refine ev_icmp_le (off := 5) (tgt := 119) (by decide +kernel) (by decide) (fun c6 => ?_) (fun c6 => ?_)
        · replace h := jpos c6 h
          refine ev_seg (o := 5) (nL := 5) (q := 120) (xs := [(.aload_n 0, 1, 0, 0, .null)]) (L' := [some (.ref 87), some (.ref 3), some (.int x2), some (.int x3), some (.int x4)]) (st' := [.ref 87]) (w' := w4) (g := []) (K := []) (by decide +kernel) rfl rfl rfl rfl jk0 ?_
          obtain ⟨q5, hq5, h⟩ := jbe h
          refine ev_callV (ci := 5) (a := 87) (y2 := y_Shares_evaluate) (o := 5) (idx := 41) (d2 := d_Shares_evaluate) (n := 0) (mc2 := 0) (ms2 := 0) (As := []) (st := []) (res2 := (none, (jRx kk), q5)) (by decide +kernel) rfl lk_5_41 mo_Shares_evaluate mv_Shares_evaluate ⟨Nat.le_of_ble_eq_true rfl, Nat.le_of_ble_eq_true rfl⟩ rfl rfl (kz_87 hk) (by decide) rfl (Nat.le_of_ble_eq_true rfl) ⟨Nat.le_refl _, Nat.le_refl _⟩ hG (e_Shares_evaluate hG hk hq5) ?_
          refine ev_seg (o := 5) (nL := 5) (q := 124) (xs := [(.iconst 1, 1, 0, 0, .int 1)]) (L' := [some (.ref 87), some (.ref 3), some (.int x2), some (.int x3), some (.int x4)]) (st' := [.int 1]) (w' := q5) (g := []) (K := []) (by decide +kernel) rfl rfl rfl rfl jk0 ?_
          cases h
          exact ev_zret (by decide +kernel) rfl rfl rfl rfl rfl
        · replace h := jneg c6 h
          refine ev_seg (o := 5) (nL := 5) (q := 118) (xs := [(.iconst 0, 1, 0, 0, .int 0)]) (L' := [some (.ref 87), some (.ref 3), some (.int x2), some (.int x3), some (.int x4)]) (st' := [.int 0]) (w' := w4) (g := []) (K := []) (by decide +kernel) rfl rfl rfl rfl jk0 ?_
          cases h
          exact ev_zret (by decide +kernel) rfl rfl rfl rfl rfl
    · replace h := jpos c14 h
      refine ev_seg (o := 5) (nL := 5) (q := 47) (xs := [(.iload_n 2, 1, 2, 0, .null), (.iload 4, 2, 4, 0, .null), (.ishr, 1, 0, 0, .null), (.iconst 1, 1, 0, 0, .int 1), (.iand, 1, 0, 0, .null), (.iconst 1, 1, 0, 0, .int 1)]) (L' := [some (.ref 87), some (.ref 3), some (.int x2), some (.int x3), some (.int x4)]) (st' := [.int 1, .int ((x2 >>> (x4 &&& 31)) &&& 1)]) (w' := q3.2) (g := []) (K := []) (by decide +kernel) rfl rfl rfl rfl jk0 ?_
      refine ev_icmp_ne (off := 46) (tgt := 93) (by decide +kernel) (by decide) (fun c13 => ?_) (fun c13 => ?_)
      · replace h := jneg c13 h
        refine ev_seg (o := 5) (nL := 5) (q := 28) (xs := [(.iinc 4 1, 3, 4, 0, .int 1), (.goto (-68), 3, 0, 0, .null)]) (L' := [some (.ref 87), some (.ref 3), some (.int x2), some (.int x3), some (.int (x4 + 1))]) (st' := []) (w' := q3.2) (g := []) (K := []) (by decide +kernel) rfl rfl rfl rfl jk0 ?_
        refine ev_mask [true, true, true, true, true] ?_
        exact ih _ _ _ _ _ h
      · replace h := jpos c13 h
        refine ev_seg (o := 5) (nL := 5) (q := 59) (xs := [(.aload_n 0, 1, 0, 0, .null), (.getfield 30, 3, 5, 2, .int 0), (.aload_n 0, 1, 0, 0, .null), (.getfield 9, 3, 5, 0, .ref 20), (.arraylength, 1, 20, 0, .null)]) (L' := [some (.ref 87), some (.ref 3), some (.int x2), some (.int x3), some (.int x4)]) (st' := [.int (Int32.ofNat 5), .int (q3.2.1 87 2)]) (w' := q3.2) (g := []) (K := [(88, 20), (88, 20), (87, 5), (87, 5)]) (by decide +kernel) rfl rfl rfl rfl (jk1 (kz_88 hk) (jk1 (kz_88 hk) (jk1 (kz_87 hk) (jk1 (kz_87 hk) jk0)))) ?_
        refine ev_icmp_lt (off := 5) (tgt := 64) (by decide +kernel) (by decide) (fun c12 => ?_) (fun c12 => ?_)
        · replace h := jpos c12 h
          refine ev_seg (o := 5) (nL := 5) (q := 79) (xs := [(.aload_n 0, 1, 0, 0, .null), (.getfield 9, 3, 5, 0, .ref 20), (.aload_n 0, 1, 0, 0, .null), (.getfield 30, 3, 5, 2, .int 0), (.aload_n 1, 1, 1, 0, .null), (.getfield 18, 3, 6, 6, .ref 3), (.iload 4, 2, 4, 0, .null), (.iconst 4, 1, 0, 0, .int 4)]) (L' := [some (.ref 87), some (.ref 3), some (.int x2), some (.int x3), some (.int x4)]) (st' := [.int 4, .int x4, .ref 6, .int (q3.2.1 87 2), .ref 88]) (w' := q3.2) (g := []) (K := [(6, 3), (3, 6), (87, 5), (88, 20), (87, 5)]) (by decide +kernel) rfl rfl rfl rfl (jk1 (kz_6 hk) (jk1 (kz_3 hk) (jk1 (kz_87 hk) (jk1 (kz_88 hk) (jk1 (kz_87 hk) jk0))))) ?_
          obtain ⟨q8, hq8, h⟩ := jbe h
          refine ev_callV (ci := 3) (a := 6) (y2 := y_Rows_at) (o := 5) (idx := 34) (d2 := d_Rows_at) (n := 2) (mc2 := 0) (ms2 := 0) (As := [.int x4, .int 4]) (st := [.int (q3.2.1 87 2), .ref 88]) (res2 := (some (.int q8.1), (jRx kk), q8.2)) (by decide +kernel) rfl lk_5_34 mo_Rows_at mv_Rows_at ⟨Nat.le_of_ble_eq_true rfl, Nat.le_of_ble_eq_true rfl⟩ rfl rfl (kz_6 hk) (by decide) rfl (Nat.le_of_ble_eq_true rfl) ⟨Nat.le_refl _, Nat.le_refl _⟩ hG (e_Rows_at hG hk (kz_6 hk) hq8) ?_
          obtain ⟨hg9, h⟩ := jgd h
          refine ev_seg (o := 5) (nL := 5) (q := 83) (xs := [(.iastore, 1, 0, 0, .null)]) (L' := [some (.ref 87), some (.ref 3), some (.int x2), some (.int x3), some (.int x4)]) (st' := []) (w' := ((jup q8.2.1 88 (Int32.toNatClampNeg (q3.2.1 87 2)) q8.1), q8.2.2)) (g := [jin (q3.2.1 87 2) 5]) (K := [(88, 20)]) (by decide +kernel) rfl rfl rfl hg9 (jk1 (kz_88 hk) jk0) ?_
          refine jlw_c (P := fun w10 => Ev l G (jrm d_Shares_take 0 0) y_Shares_take (some (.int z.1), (jRx kk), z.2) 0 0 0 0 83 [some (.ref 87), some (.ref 3), some (.int x2), some (.int x3), some (.int x4)] [] (jRx kk) w10) h fun w10 h => ?_
          refine ev_seg (o := 5) (nL := 5) (q := 93) (xs := [(.aload_n 0, 1, 0, 0, .null), (.dup, 1, 0, 0, .null), (.getfield 30, 3, 5, 2, .int 0), (.iconst 1, 1, 0, 0, .int 1), (.iadd, 1, 0, 0, .null), (.putfield 30, 3, 5, 2, .int 0)]) (L' := [some (.ref 87), some (.ref 3), some (.int x2), some (.int x3), some (.int x4)]) (st' := []) (w' := ((jup w10.1 87 2 ((w10.1 87 2) + 1)), w10.2)) (g := []) (K := [(87, 5), (87, 5)]) (by decide +kernel) rfl rfl rfl rfl (jk1 (kz_87 hk) (jk1 (kz_87 hk) jk0)) ?_
          refine jlw_c (P := fun w11 => Ev l G (jrm d_Shares_take 0 0) y_Shares_take (some (.int z.1), (jRx kk), z.2) 0 0 0 0 93 [some (.ref 87), some (.ref 3), some (.int x2), some (.int x3), some (.int x4)] [] (jRx kk) w11) h fun w11 h => ?_
          refine ev_seg (o := 5) (nL := 5) (q := 28) (xs := [(.iinc 4 1, 3, 4, 0, .int 1), (.goto (-68), 3, 0, 0, .null)]) (L' := [some (.ref 87), some (.ref 3), some (.int x2), some (.int x3), some (.int (x4 + 1))]) (st' := []) (w' := w11) (g := []) (K := []) (by decide +kernel) rfl rfl rfl rfl jk0 ?_
          refine ev_mask [true, true, true, true, true] ?_
          exact ih _ _ _ _ _ h
        · replace h := jneg c12 h
          refine ev_seg (o := 5) (nL := 5) (q := 63) (xs := [(.iconst 0, 1, 0, 0, .int 0)]) (L' := [some (.ref 87), some (.ref 3), some (.int x2), some (.int x3), some (.int x4)]) (st' := [.int 0]) (w' := q3.2) (g := []) (K := []) (by decide +kernel) rfl rfl rfl rfl jk0 ?_
          cases h
          exact ev_zret (by decide +kernel) rfl rfl rfl rfl rfl
def f_Shares_take (x2 : Int32) (x3 : Int32) (w : jW) : Option (Int32 × jW) :=
  if x2 < 1 then
    some (0, w)
  else
    Option.bind (f_Rows_count 6 w) fun q1 =>
    if x2 < ((1 : Int32) <<< (q1.1 &&& 31)) then
      jlw ((jup q1.2.1 87 2 0), q1.2.2) fun w2 =>
      f_Shares_take_h28 jfu x2 x3 0 w2
    else
      some (0, q1.2)
set_option maxRecDepth 20000 in
theorem e_Shares_take {l : Launch} {G : jG} (hG : jX G) {kk : Nat} (hk : 93 ≤ kk) {x2 : Int32} {x3 : Int32} {w : jW} {z : (Int32 × jW)} (h : f_Shares_take x2 x3 w = some z) : Ct l G y_Shares_take d_Shares_take 0 0 [.ref 87, .ref 3, .int x2, .int x3] (jRx kk) w (some (.int z.1), (jRx kk), z.2) := by
  rw [f_Shares_take] at h
  refine Ct.of (L := [some (.ref 87), some (.ref 3), some (.int x2), some (.int x3), none]) (by decide) (Nat.le_of_ble_eq_true rfl) rfl ?_
  refine ev_seg (o := 5) (nL := 5) (q := 2) (xs := [(.iload_n 2, 1, 2, 0, .null), (.iconst 1, 1, 0, 0, .int 1)]) (L' := [some (.ref 87), some (.ref 3), some (.int x2), some (.int x3), none]) (st' := [.int 1, .int x2]) (w' := w) (g := []) (K := []) (by decide +kernel) rfl rfl rfl rfl jk0 ?_
  refine ev_icmp_lt (off := 16) (tgt := 18) (by decide +kernel) (by decide) (fun c16 => ?_) (fun c16 => ?_)
  · replace h := jpos c16 h
    refine ev_seg (o := 5) (nL := 5) (q := 19) (xs := [(.iconst 0, 1, 0, 0, .int 0)]) (L' := [some (.ref 87), some (.ref 3), some (.int x2), some (.int x3), none]) (st' := [.int 0]) (w' := w) (g := []) (K := []) (by decide +kernel) rfl rfl rfl rfl jk0 ?_
    cases h
    exact ev_zret (by decide +kernel) rfl rfl rfl rfl rfl
  · replace h := jneg c16 h
    refine ev_seg (o := 5) (nL := 5) (q := 11) (xs := [(.iload_n 2, 1, 2, 0, .null), (.iconst 1, 1, 0, 0, .int 1), (.aload_n 1, 1, 1, 0, .null), (.getfield 18, 3, 6, 6, .ref 3)]) (L' := [some (.ref 87), some (.ref 3), some (.int x2), some (.int x3), none]) (st' := [.ref 6, .int 1, .int x2]) (w' := w) (g := []) (K := [(6, 3), (3, 6)]) (by decide +kernel) rfl rfl rfl rfl (jk1 (kz_6 hk) (jk1 (kz_3 hk) jk0)) ?_
    obtain ⟨q1, hq1, h⟩ := jbe h
    refine ev_callV (ci := 3) (a := 6) (y2 := y_Rows_count) (o := 5) (idx := 24) (d2 := d_Rows_count) (n := 0) (mc2 := 0) (ms2 := 0) (As := []) (st := [.int 1, .int x2]) (res2 := (some (.int q1.1), (jRx kk), q1.2)) (by decide +kernel) rfl lk_5_24 mo_Rows_count mv_Rows_count ⟨Nat.le_of_ble_eq_true rfl, Nat.le_of_ble_eq_true rfl⟩ rfl rfl (kz_6 hk) (by decide) rfl (Nat.le_of_ble_eq_true rfl) ⟨Nat.le_refl _, Nat.le_refl _⟩ hG (e_Rows_count hG hk (kz_6 hk) hq1) ?_
    refine ev_seg (o := 5) (nL := 5) (q := 15) (xs := [(.ishl, 1, 0, 0, .null)]) (L' := [some (.ref 87), some (.ref 3), some (.int x2), some (.int x3), none]) (st' := [.int ((1 : Int32) <<< (q1.1 &&& 31)), .int x2]) (w' := q1.2) (g := []) (K := []) (by decide +kernel) rfl rfl rfl rfl jk0 ?_
    refine ev_icmp_lt (off := 5) (tgt := 20) (by decide +kernel) (by decide) (fun c15 => ?_) (fun c15 => ?_)
    · replace h := jpos c15 h
      refine ev_seg (o := 5) (nL := 5) (q := 25) (xs := [(.aload_n 0, 1, 0, 0, .null), (.iconst 0, 1, 0, 0, .int 0), (.putfield 30, 3, 5, 2, .int 0)]) (L' := [some (.ref 87), some (.ref 3), some (.int x2), some (.int x3), none]) (st' := []) (w' := ((jup q1.2.1 87 2 0), q1.2.2)) (g := []) (K := [(87, 5)]) (by decide +kernel) rfl rfl rfl rfl (jk1 (kz_87 hk) jk0) ?_
      refine jlw_c (P := fun w2 => Ev l G (jrm d_Shares_take 0 0) y_Shares_take (some (.int z.1), (jRx kk), z.2) 0 0 0 0 25 [some (.ref 87), some (.ref 3), some (.int x2), some (.int x3), none] [] (jRx kk) w2) h fun w2 h => ?_
      refine ev_seg (o := 5) (nL := 5) (q := 28) (xs := [(.iconst 0, 1, 0, 0, .int 0), (.istore 4, 2, 4, 0, .null)]) (L' := [some (.ref 87), some (.ref 3), some (.int x2), some (.int x3), some (.int 0)]) (st' := []) (w' := w2) (g := []) (K := []) (by decide +kernel) rfl rfl rfl rfl jk0 ?_
      refine ev_mask [true, true, true, true, true] ?_
      exact t_Shares_take_h28 hG hk jfu _ _ _ _ _ h
    · replace h := jneg c15 h
      refine ev_seg (o := 5) (nL := 5) (q := 19) (xs := [(.iconst 0, 1, 0, 0, .int 0)]) (L' := [some (.ref 87), some (.ref 3), some (.int x2), some (.int x3), none]) (st' := [.int 0]) (w' := q1.2) (g := []) (K := []) (by decide +kernel) rfl rfl rfl rfl jk0 ?_
      cases h
      exact ev_zret (by decide +kernel) rfl rfl rfl rfl rfl
def f_Count_value (x1 : Int32) (x2 : Int32) (x3 : Int32) (w : jW) : Option (Int64 × jW) :=
  Option.bind (f_Shares_take x1 x2 w) fun q1 =>
  if q1.1 = 0 then
    some ((-1), q1.2)
  else
    if x3 = 0 then
      some ((q1.2.2 87 4), q1.2)
    else
      some ((q1.2.2 87 5), q1.2)
set_option maxRecDepth 20000 in
theorem e_Count_value {l : Launch} {G : jG} (hG : jX G) {kk : Nat} (hk : 93 ≤ kk) {x1 : Int32} {x2 : Int32} {x3 : Int32} {w : jW} {z : (Int64 × jW)} (h : f_Count_value x1 x2 x3 w = some z) : Ct l G y_Count_value d_Count_value 0 0 [.ref 2, .int x1, .int x2, .int x3] (jRx kk) w (some (.long z.1), (jRx kk), z.2) := by
  rw [f_Count_value] at h
  refine Ct.of (L := [some (.ref 2), some (.int x1), some (.int x2), some (.int x3)]) (by decide) (Nat.le_of_ble_eq_true rfl) rfl ?_
  refine ev_seg (o := 9) (nL := 4) (q := 10) (xs := [(.aload_n 0, 1, 0, 0, .null), (.getfield 43, 3, 9, 5, .ref 5), (.aload_n 0, 1, 0, 0, .null), (.getfield 12, 3, 9, 0, .ref 6), (.iload_n 1, 1, 1, 0, .null), (.iload_n 2, 1, 2, 0, .null)]) (L' := [some (.ref 2), some (.int x1), some (.int x2), some (.int x3)]) (st' := [.int x2, .int x1, .ref 3, .ref 87]) (w' := w) (g := []) (K := [(3, 6), (2, 9), (87, 5), (2, 9)]) (by decide +kernel) rfl rfl rfl rfl (jk1 (kz_3 hk) (jk1 (kz_2 hk) (jk1 (kz_87 hk) (jk1 (kz_2 hk) jk0)))) ?_
  obtain ⟨q1, hq1, h⟩ := jbe h
  refine ev_callV (ci := 5) (a := 87) (y2 := y_Shares_take) (o := 9) (idx := 271) (d2 := d_Shares_take) (n := 3) (mc2 := 0) (ms2 := 0) (As := [.ref 3, .int x1, .int x2]) (st := []) (res2 := (some (.int q1.1), (jRx kk), q1.2)) (by decide +kernel) rfl lk_9_271 mo_Shares_take mv_Shares_take ⟨Nat.le_of_ble_eq_true rfl, Nat.le_of_ble_eq_true rfl⟩ rfl rfl (kz_87 hk) (by decide) rfl (Nat.le_of_ble_eq_true rfl) ⟨Nat.le_refl _, Nat.le_refl _⟩ hG (e_Shares_take hG hk hq1) ?_
  refine ev_if_ne (off := 7) (tgt := 20) (by decide +kernel) (by decide) (fun c3 => ?_) (fun c3 => ?_)
  · replace h := jneg c3 h
    refine ev_seg (o := 9) (nL := 4) (q := 21) (xs := [(.iload_n 3, 1, 3, 0, .null)]) (L' := [some (.ref 2), some (.int x1), some (.int x2), some (.int x3)]) (st' := [.int x3]) (w' := q1.2) (g := []) (K := []) (by decide +kernel) rfl rfl rfl rfl jk0 ?_
    refine ev_if_eq (off := 13) (tgt := 34) (by decide +kernel) (by decide) (fun c2 => ?_) (fun c2 => ?_)
    · replace h := jpos c2 h
      refine ev_seg (o := 9) (nL := 4) (q := 41) (xs := [(.aload_n 0, 1, 0, 0, .null), (.getfield 43, 3, 9, 5, .ref 5), (.getfield 281, 3, 5, 4, .long 0)]) (L' := [some (.ref 2), some (.int x1), some (.int x2), some (.int x3)]) (st' := [.long (q1.2.2 87 4)]) (w' := q1.2) (g := []) (K := [(87, 5), (87, 5), (2, 9)]) (by decide +kernel) rfl rfl rfl rfl (jk1 (kz_87 hk) (jk1 (kz_87 hk) (jk1 (kz_2 hk) jk0))) ?_
      cases h
      exact ev_lret (by decide +kernel) rfl rfl rfl rfl
    · replace h := jneg c2 h
      refine ev_seg (o := 9) (nL := 4) (q := 41) (xs := [(.aload_n 0, 1, 0, 0, .null), (.getfield 43, 3, 9, 5, .ref 5), (.getfield 277, 3, 5, 5, .long 0), (.goto 10, 3, 0, 0, .null)]) (L' := [some (.ref 2), some (.int x1), some (.int x2), some (.int x3)]) (st' := [.long (q1.2.2 87 5)]) (w' := q1.2) (g := []) (K := [(87, 5), (87, 5), (2, 9)]) (by decide +kernel) rfl rfl rfl rfl (jk1 (kz_87 hk) (jk1 (kz_87 hk) (jk1 (kz_2 hk) jk0))) ?_
      cases h
      exact ev_lret (by decide +kernel) rfl rfl rfl rfl
  · replace h := jpos c3 h
    refine ev_seg (o := 9) (nL := 4) (q := 19) (xs := [(.ldc2_w 275, 3, 0, 0, .long (-1))]) (L' := [some (.ref 2), some (.int x1), some (.int x2), some (.int x3)]) (st' := [.long (-1)]) (w' := q1.2) (g := []) (K := []) (by decide +kernel) rfl rfl rfl rfl jk0 ?_
    cases h
    exact ev_lret (by decide +kernel) rfl rfl rfl rfl
def f_Shares_divide (x1 : Int32) (w : jW) : Option jW :=
  Option.bind (f_Shares_reduce (w.2 87 4) ((w.2 87 5) * (Int32.toInt64 x1)) w) fun q1 =>
  some q1
set_option maxRecDepth 20000 in
theorem e_Shares_divide {l : Launch} {G : jG} (hG : jX G) {kk : Nat} (hk : 93 ≤ kk) {x1 : Int32} {w : jW} {z : jW} (h : f_Shares_divide x1 w = some z) : Ct l G y_Shares_divide d_Shares_divide 0 0 [.ref 87, .int x1] (jRx kk) w (none, (jRx kk), z) := by
  rw [f_Shares_divide] at h
  refine Ct.of (L := [some (.ref 87), some (.int x1)]) (by decide) (Nat.le_of_ble_eq_true rfl) rfl ?_
  refine ev_seg (o := 5) (nL := 2) (q := 12) (xs := [(.aload_n 0, 1, 0, 0, .null), (.aload_n 0, 1, 0, 0, .null), (.getfield 53, 3, 5, 4, .long 0), (.aload_n 0, 1, 0, 0, .null), (.getfield 57, 3, 5, 5, .long 0), (.iload_n 1, 1, 1, 0, .null), (.i2l, 1, 0, 0, .null), (.lmul, 1, 0, 0, .null)]) (L' := [some (.ref 87), some (.int x1)]) (st' := [.long ((w.2 87 5) * (Int32.toInt64 x1)), .long (w.2 87 4), .ref 87]) (w' := w) (g := []) (K := [(87, 5), (87, 5)]) (by decide +kernel) rfl rfl rfl rfl (jk1 (kz_87 hk) (jk1 (kz_87 hk) jk0)) ?_
  obtain ⟨q1, hq1, h⟩ := jbe h
  refine ev_callV (ci := 5) (a := 87) (y2 := y_Shares_reduce) (o := 5) (idx := 49) (d2 := d_Shares_reduce) (n := 2) (mc2 := 0) (ms2 := 0) (As := [.long (w.2 87 4), .long ((w.2 87 5) * (Int32.toInt64 x1))]) (st := []) (res2 := (none, (jRx kk), q1)) (by decide +kernel) rfl lk_5_49 mo_Shares_reduce mv_Shares_reduce ⟨Nat.le_of_ble_eq_true rfl, Nat.le_of_ble_eq_true rfl⟩ rfl rfl (kz_87 hk) (by decide) rfl (Nat.le_of_ble_eq_true rfl) ⟨Nat.le_refl _, Nat.le_refl _⟩ hG (e_Shares_reduce hG hk hq1) ?_
  cases h
  exact ev_vret (by decide +kernel) rfl rfl rfl rfl
def f_Count_share (x1 : Int32) (x2 : Int32) (x3 : Int32) (x4 : Int32) (w : jW) : Option (Int64 × jW) :=
  Option.bind (f_Shares_take x1 x2 w) fun q1 =>
  if q1.1 = 0 then
    some ((-1), q1.2)
  else
    Option.bind (f_Rows_has 6 x3 q1.2) fun q2 =>
    if q2.1 = 0 then
      some ((-1), q2.2)
    else
      if ((x1 >>> (x3 &&& 31)) &&& 1) = 0 then
        some ((-1), q2.2)
      else
        Option.bind (f_Rows_at 6 x3 4 q2.2) fun q3 =>
        Option.bind (f_Shares_divide q3.1 q3.2) fun q4 =>
        if x4 = 0 then
          some ((q4.2 87 4), q4)
        else
          some ((q4.2 87 5), q4)
set_option maxRecDepth 20000 in
theorem e_Count_share {l : Launch} {G : jG} (hG : jX G) {kk : Nat} (hk : 93 ≤ kk) {x1 : Int32} {x2 : Int32} {x3 : Int32} {x4 : Int32} {w : jW} {z : (Int64 × jW)} (h : f_Count_share x1 x2 x3 x4 w = some z) : Ct l G y_Count_share d_Count_share 0 0 [.ref 2, .int x1, .int x2, .int x3, .int x4] (jRx kk) w (some (.long z.1), (jRx kk), z.2) := by
  rw [f_Count_share] at h
  refine Ct.of (L := [some (.ref 2), some (.int x1), some (.int x2), some (.int x3), some (.int x4)]) (by decide) (Nat.le_of_ble_eq_true rfl) rfl ?_
  refine ev_seg (o := 9) (nL := 5) (q := 10) (xs := [(.aload_n 0, 1, 0, 0, .null), (.getfield 43, 3, 9, 5, .ref 5), (.aload_n 0, 1, 0, 0, .null), (.getfield 12, 3, 9, 0, .ref 6), (.iload_n 1, 1, 1, 0, .null), (.iload_n 2, 1, 2, 0, .null)]) (L' := [some (.ref 2), some (.int x1), some (.int x2), some (.int x3), some (.int x4)]) (st' := [.int x2, .int x1, .ref 3, .ref 87]) (w' := w) (g := []) (K := [(3, 6), (2, 9), (87, 5), (2, 9)]) (by decide +kernel) rfl rfl rfl rfl (jk1 (kz_3 hk) (jk1 (kz_2 hk) (jk1 (kz_87 hk) (jk1 (kz_2 hk) jk0)))) ?_
  obtain ⟨q1, hq1, h⟩ := jbe h
  refine ev_callV (ci := 5) (a := 87) (y2 := y_Shares_take) (o := 9) (idx := 271) (d2 := d_Shares_take) (n := 3) (mc2 := 0) (ms2 := 0) (As := [.ref 3, .int x1, .int x2]) (st := []) (res2 := (some (.int q1.1), (jRx kk), q1.2)) (by decide +kernel) rfl lk_9_271 mo_Shares_take mv_Shares_take ⟨Nat.le_of_ble_eq_true rfl, Nat.le_of_ble_eq_true rfl⟩ rfl rfl (kz_87 hk) (by decide) rfl (Nat.le_of_ble_eq_true rfl) ⟨Nat.le_refl _, Nat.le_refl _⟩ hG (e_Shares_take hG hk hq1) ?_
  refine ev_if_eq (off := 25) (tgt := 38) (by decide +kernel) (by decide) (fun c8 => ?_) (fun c8 => ?_)
  · replace h := jpos c8 h
    refine ev_seg (o := 9) (nL := 5) (q := 41) (xs := [(.ldc2_w 275, 3, 0, 0, .long (-1))]) (L' := [some (.ref 2), some (.int x1), some (.int x2), some (.int x3), some (.int x4)]) (st' := [.long (-1)]) (w' := q1.2) (g := []) (K := []) (by decide +kernel) rfl rfl rfl rfl jk0 ?_
    cases h
    exact ev_lret (by decide +kernel) rfl rfl rfl rfl
  · replace h := jneg c8 h
    refine ev_seg (o := 9) (nL := 5) (q := 24) (xs := [(.aload_n 0, 1, 0, 0, .null), (.getfield 12, 3, 9, 0, .ref 6), (.getfield 58, 3, 6, 6, .ref 3), (.iload_n 3, 1, 3, 0, .null)]) (L' := [some (.ref 2), some (.int x1), some (.int x2), some (.int x3), some (.int x4)]) (st' := [.int x3, .ref 6]) (w' := q1.2) (g := []) (K := [(6, 3), (3, 6), (3, 6), (2, 9)]) (by decide +kernel) rfl rfl rfl rfl (jk1 (kz_6 hk) (jk1 (kz_3 hk) (jk1 (kz_3 hk) (jk1 (kz_2 hk) jk0)))) ?_
    obtain ⟨q2, hq2, h⟩ := jbe h
    refine ev_callV (ci := 3) (a := 6) (y2 := y_Rows_has) (o := 9) (idx := 80) (d2 := d_Rows_has) (n := 1) (mc2 := 0) (ms2 := 0) (As := [.int x3]) (st := []) (res2 := (some (.int q2.1), (jRx kk), q2.2)) (by decide +kernel) rfl lk_9_80 mo_Rows_has mv_Rows_has ⟨Nat.le_of_ble_eq_true rfl, Nat.le_of_ble_eq_true rfl⟩ rfl rfl (kz_6 hk) (by decide) rfl (Nat.le_of_ble_eq_true rfl) ⟨Nat.le_refl _, Nat.le_refl _⟩ hG (e_Rows_has hG hk (kz_6 hk) hq2) ?_
    refine ev_if_eq (off := 11) (tgt := 38) (by decide +kernel) (by decide) (fun c7 => ?_) (fun c7 => ?_)
    · replace h := jpos c7 h
      refine ev_seg (o := 9) (nL := 5) (q := 41) (xs := [(.ldc2_w 275, 3, 0, 0, .long (-1))]) (L' := [some (.ref 2), some (.int x1), some (.int x2), some (.int x3), some (.int x4)]) (st' := [.long (-1)]) (w' := q2.2) (g := []) (K := []) (by decide +kernel) rfl rfl rfl rfl jk0 ?_
      cases h
      exact ev_lret (by decide +kernel) rfl rfl rfl rfl
    · replace h := jneg c7 h
      refine ev_seg (o := 9) (nL := 5) (q := 35) (xs := [(.iload_n 1, 1, 1, 0, .null), (.iload_n 3, 1, 3, 0, .null), (.ishr, 1, 0, 0, .null), (.iconst 1, 1, 0, 0, .int 1), (.iand, 1, 0, 0, .null)]) (L' := [some (.ref 2), some (.int x1), some (.int x2), some (.int x3), some (.int x4)]) (st' := [.int ((x1 >>> (x3 &&& 31)) &&& 1)]) (w' := q2.2) (g := []) (K := []) (by decide +kernel) rfl rfl rfl rfl jk0 ?_
      refine ev_if_ne (off := 7) (tgt := 42) (by decide +kernel) (by decide) (fun c6 => ?_) (fun c6 => ?_)
      · replace h := jneg c6 h
        refine ev_seg (o := 9) (nL := 5) (q := 55) (xs := [(.aload_n 0, 1, 0, 0, .null), (.getfield 43, 3, 9, 5, .ref 5), (.aload_n 0, 1, 0, 0, .null), (.getfield 12, 3, 9, 0, .ref 6), (.getfield 58, 3, 6, 6, .ref 3), (.iload_n 3, 1, 3, 0, .null), (.iconst 4, 1, 0, 0, .int 4)]) (L' := [some (.ref 2), some (.int x1), some (.int x2), some (.int x3), some (.int x4)]) (st' := [.int 4, .int x3, .ref 6, .ref 87]) (w' := q2.2) (g := []) (K := [(6, 3), (3, 6), (3, 6), (2, 9), (87, 5), (2, 9)]) (by decide +kernel) rfl rfl rfl rfl (jk1 (kz_6 hk) (jk1 (kz_3 hk) (jk1 (kz_3 hk) (jk1 (kz_2 hk) (jk1 (kz_87 hk) (jk1 (kz_2 hk) jk0)))))) ?_
        obtain ⟨q3, hq3, h⟩ := jbe h
        refine ev_callV (ci := 3) (a := 6) (y2 := y_Rows_at) (o := 9) (idx := 83) (d2 := d_Rows_at) (n := 2) (mc2 := 0) (ms2 := 0) (As := [.int x3, .int 4]) (st := [.ref 87]) (res2 := (some (.int q3.1), (jRx kk), q3.2)) (by decide +kernel) rfl lk_9_83 mo_Rows_at mv_Rows_at ⟨Nat.le_of_ble_eq_true rfl, Nat.le_of_ble_eq_true rfl⟩ rfl rfl (kz_6 hk) (by decide) rfl (Nat.le_of_ble_eq_true rfl) ⟨Nat.le_refl _, Nat.le_refl _⟩ hG (e_Rows_at hG hk (kz_6 hk) hq3) ?_
        obtain ⟨q4, hq4, h⟩ := jbe h
        refine ev_callV (ci := 5) (a := 87) (y2 := y_Shares_divide) (o := 9) (idx := 284) (d2 := d_Shares_divide) (n := 1) (mc2 := 0) (ms2 := 0) (As := [.int q3.1]) (st := []) (res2 := (none, (jRx kk), q4)) (by decide +kernel) rfl lk_9_284 mo_Shares_divide mv_Shares_divide ⟨Nat.le_of_ble_eq_true rfl, Nat.le_of_ble_eq_true rfl⟩ rfl rfl (kz_87 hk) (by decide) rfl (Nat.le_of_ble_eq_true rfl) ⟨Nat.le_refl _, Nat.le_refl _⟩ hG (e_Shares_divide hG hk hq4) ?_
        refine ev_seg (o := 9) (nL := 5) (q := 63) (xs := [(.iload 4, 2, 4, 0, .null)]) (L' := [some (.ref 2), some (.int x1), some (.int x2), some (.int x3), some (.int x4)]) (st' := [.int x4]) (w' := q4) (g := []) (K := []) (by decide +kernel) rfl rfl rfl rfl jk0 ?_
        refine ev_if_eq (off := 13) (tgt := 76) (by decide +kernel) (by decide) (fun c5 => ?_) (fun c5 => ?_)
        · replace h := jpos c5 h
          refine ev_seg (o := 9) (nL := 5) (q := 83) (xs := [(.aload_n 0, 1, 0, 0, .null), (.getfield 43, 3, 9, 5, .ref 5), (.getfield 281, 3, 5, 4, .long 0)]) (L' := [some (.ref 2), some (.int x1), some (.int x2), some (.int x3), some (.int x4)]) (st' := [.long (q4.2 87 4)]) (w' := q4) (g := []) (K := [(87, 5), (87, 5), (2, 9)]) (by decide +kernel) rfl rfl rfl rfl (jk1 (kz_87 hk) (jk1 (kz_87 hk) (jk1 (kz_2 hk) jk0))) ?_
          cases h
          exact ev_lret (by decide +kernel) rfl rfl rfl rfl
        · replace h := jneg c5 h
          refine ev_seg (o := 9) (nL := 5) (q := 83) (xs := [(.aload_n 0, 1, 0, 0, .null), (.getfield 43, 3, 9, 5, .ref 5), (.getfield 277, 3, 5, 5, .long 0), (.goto 10, 3, 0, 0, .null)]) (L' := [some (.ref 2), some (.int x1), some (.int x2), some (.int x3), some (.int x4)]) (st' := [.long (q4.2 87 5)]) (w' := q4) (g := []) (K := [(87, 5), (87, 5), (2, 9)]) (by decide +kernel) rfl rfl rfl rfl (jk1 (kz_87 hk) (jk1 (kz_87 hk) (jk1 (kz_2 hk) jk0))) ?_
          cases h
          exact ev_lret (by decide +kernel) rfl rfl rfl rfl
      · replace h := jpos c6 h
        refine ev_seg (o := 9) (nL := 5) (q := 41) (xs := [(.ldc2_w 275, 3, 0, 0, .long (-1))]) (L' := [some (.ref 2), some (.int x1), some (.int x2), some (.int x3), some (.int x4)]) (st' := [.long (-1)]) (w' := q2.2) (g := []) (K := []) (by decide +kernel) rfl rfl rfl rfl jk0 ?_
        cases h
        exact ev_lret (by decide +kernel) rfl rfl rfl rfl
def f_Shares_weigh (x1 : Int32) (x2 : Int32) (w : jW) : Option jW :=
  if x1 < 0 then
    some w
  else
    if x1 < (Int32.ofNat 5) then
      if jal [jin x1 5] = true then
      jlw ((jup w.1 89 (Int32.toNatClampNeg x1) x2), w.2) fun w2 =>
      some w2
      else none
    else
      some w
set_option maxRecDepth 20000 in
theorem e_Shares_weigh {l : Launch} {G : jG} (hG : jX G) {kk : Nat} (hk : 93 ≤ kk) {x1 : Int32} {x2 : Int32} {w : jW} {z : jW} (h : f_Shares_weigh x1 x2 w = some z) : Ct l G y_Shares_weigh d_Shares_weigh 0 0 [.ref 87, .int x1, .int x2] (jRx kk) w (none, (jRx kk), z) := by
  rw [f_Shares_weigh] at h
  refine Ct.of (L := [some (.ref 87), some (.int x1), some (.int x2)]) (by decide) (Nat.le_of_ble_eq_true rfl) rfl ?_
  refine ev_seg (o := 5) (nL := 3) (q := 1) (xs := [(.iload_n 1, 1, 1, 0, .null)]) (L' := [some (.ref 87), some (.int x1), some (.int x2)]) (st' := [.int x1]) (w' := w) (g := []) (K := []) (by decide +kernel) rfl rfl rfl rfl jk0 ?_
  refine ev_if_lt (off := 19) (tgt := 20) (by decide +kernel) (by decide) (fun c4 => ?_) (fun c4 => ?_)
  · replace h := jpos c4 h
    cases h
    exact ev_vret (by decide +kernel) rfl rfl rfl rfl
  · replace h := jneg c4 h
    refine ev_seg (o := 5) (nL := 3) (q := 10) (xs := [(.iload_n 1, 1, 1, 0, .null), (.aload_n 0, 1, 0, 0, .null), (.getfield 15, 3, 5, 1, .ref 20), (.arraylength, 1, 20, 0, .null)]) (L' := [some (.ref 87), some (.int x1), some (.int x2)]) (st' := [.int (Int32.ofNat 5), .int x1]) (w' := w) (g := []) (K := [(89, 20), (89, 20), (87, 5)]) (by decide +kernel) rfl rfl rfl rfl (jk1 (kz_89 hk) (jk1 (kz_89 hk) (jk1 (kz_87 hk) jk0))) ?_
    refine ev_icmp_ge (off := 10) (tgt := 20) (by decide +kernel) (by decide) (fun c3 => ?_) (fun c3 => ?_)
    · replace h := jneg c3 h
      cases h
      exact ev_vret (by decide +kernel) rfl rfl rfl rfl
    · replace h := jpos c3 h
      obtain ⟨hg1, h⟩ := jgd h
      refine ev_seg (o := 5) (nL := 3) (q := 20) (xs := [(.aload_n 0, 1, 0, 0, .null), (.getfield 15, 3, 5, 1, .ref 20), (.iload_n 1, 1, 1, 0, .null), (.iload_n 2, 1, 2, 0, .null), (.iastore, 1, 0, 0, .null)]) (L' := [some (.ref 87), some (.int x1), some (.int x2)]) (st' := []) (w' := ((jup w.1 89 (Int32.toNatClampNeg x1) x2), w.2)) (g := [jin x1 5]) (K := [(89, 20), (89, 20), (87, 5)]) (by decide +kernel) rfl rfl rfl hg1 (jk1 (kz_89 hk) (jk1 (kz_89 hk) (jk1 (kz_87 hk) jk0))) ?_
      refine jlw_c (P := fun w2 => Ev l G (jrm d_Shares_weigh 0 0) y_Shares_weigh (none, (jRx kk), z) 0 0 0 0 20 [some (.ref 87), some (.int x1), some (.int x2)] [] (jRx kk) w2) h fun w2 h => ?_
      cases h
      exact ev_vret (by decide +kernel) rfl rfl rfl rfl
def f_Shares_greatestTogether_j128 (k53 : Int64 → Int32 → jW → Option (Int64 × jW)) (x1 : Int64) (x3 : Int32) (x4 : Int32) (w : jW) : Option (Int64 × jW) :=
  if x4 < (Int32.ofNat 5) then
    if jal [jin x4 5, jin x4 5] = true then
    jlw ((jup w.1 89 (Int32.toNatClampNeg x4) (-1)), w.2) fun w2 =>
    k53 (x1 + (Int32.toInt64 (w.1 89 (Int32.toNatClampNeg x4)))) (x3 + 1) w2
    else none
  else
    k53 x1 (x3 + 1) w
set_option maxRecDepth 20000 in
theorem t_Shares_greatestTogether_j128 {l : Launch} {G : jG} (hG : jX G) {kk : Nat} (hk : 93 ≤ kk) {k53 : Int64 → Int32 → jW → Option (Int64 × jW)} (hk53 : ∀ (x1 : Int64) (x3 : Int32) (w : jW) (z : (Int64 × jW)), k53 x1 x3 w = some z → Ev l G (jrm d_Shares_greatestTogether 0 0) y_Shares_greatestTogether (some (.long z.1), (jRx kk), z.2) 0 0 0 0 53 [some (.ref 87), some (.long x1), none, some (.int x3), none, none] [] (jRx kk) w) {x1 : Int64} {x3 : Int32} {x4 : Int32} {w : jW} {z : (Int64 × jW)} (h : f_Shares_greatestTogether_j128 k53 x1 x3 x4 w = some z) : Ev l G (jrm d_Shares_greatestTogether 0 0) y_Shares_greatestTogether (some (.long z.1), (jRx kk), z.2) 0 0 0 0 128 [some (.ref 87), some (.long x1), none, some (.int x3), some (.int x4), none] [] (jRx kk) w := by
  rw [f_Shares_greatestTogether_j128] at h
  refine ev_seg (o := 5) (nL := 6) (q := 135) (xs := [(.iload 4, 2, 4, 0, .null), (.aload_n 0, 1, 0, 0, .null), (.getfield 15, 3, 5, 1, .ref 20), (.arraylength, 1, 20, 0, .null)]) (L' := [some (.ref 87), some (.long x1), none, some (.int x3), some (.int x4), none]) (st' := [.int (Int32.ofNat 5), .int x4]) (w' := w) (g := []) (K := [(89, 20), (89, 20), (87, 5)]) (by decide +kernel) rfl rfl rfl rfl (jk1 (kz_89 hk) (jk1 (kz_89 hk) (jk1 (kz_87 hk) jk0))) ?_
  refine ev_icmp_ge (off := 22) (tgt := 157) (by decide +kernel) (by decide) (fun c3 => ?_) (fun c3 => ?_)
  · replace h := jneg c3 h
    refine ev_seg (o := 5) (nL := 6) (q := 53) (xs := [(.iinc 3 1, 3, 3, 0, .int 1), (.goto (-107), 3, 0, 0, .null)]) (L' := [some (.ref 87), some (.long x1), none, some (.int (x3 + 1)), some (.int x4), none]) (st' := []) (w' := w) (g := []) (K := []) (by decide +kernel) rfl rfl rfl rfl jk0 ?_
    refine ev_mask [true, true, false, true, false, false] ?_
    exact hk53 _ _ _ _ h
  · replace h := jpos c3 h
    obtain ⟨hg1, h⟩ := jgd h
    refine ev_seg (o := 5) (nL := 6) (q := 157) (xs := [(.lload_n 1, 1, 1, 0, .null), (.aload_n 0, 1, 0, 0, .null), (.getfield 15, 3, 5, 1, .ref 20), (.iload 4, 2, 4, 0, .null), (.iaload, 1, 0, 0, .null), (.i2l, 1, 0, 0, .null), (.ladd, 1, 0, 0, .null), (.lstore_n 1, 1, 1, 0, .null), (.aload_n 0, 1, 0, 0, .null), (.getfield 15, 3, 5, 1, .ref 20), (.iload 4, 2, 4, 0, .null), (.iconst (-1), 1, 0, 0, .int (-1)), (.iastore, 1, 0, 0, .null)]) (L' := [some (.ref 87), some (.long (x1 + (Int32.toInt64 (w.1 89 (Int32.toNatClampNeg x4))))), none, some (.int x3), some (.int x4), none]) (st' := []) (w' := ((jup w.1 89 (Int32.toNatClampNeg x4) (-1)), w.2)) (g := [jin x4 5, jin x4 5]) (K := [(89, 20), (89, 20), (87, 5), (89, 20), (89, 20), (87, 5)]) (by decide +kernel) rfl rfl rfl hg1 (jk1 (kz_89 hk) (jk1 (kz_89 hk) (jk1 (kz_87 hk) (jk1 (kz_89 hk) (jk1 (kz_89 hk) (jk1 (kz_87 hk) jk0)))))) ?_
    refine jlw_c (P := fun w2 => Ev l G (jrm d_Shares_greatestTogether 0 0) y_Shares_greatestTogether (some (.long z.1), (jRx kk), z.2) 0 0 0 0 157 [some (.ref 87), some (.long (x1 + (Int32.toInt64 (w.1 89 (Int32.toNatClampNeg x4))))), none, some (.int x3), some (.int x4), none] [] (jRx kk) w2) h fun w2 h => ?_
    refine ev_seg (o := 5) (nL := 6) (q := 53) (xs := [(.iinc 3 1, 3, 3, 0, .int 1), (.goto (-107), 3, 0, 0, .null)]) (L' := [some (.ref 87), some (.long (x1 + (Int32.toInt64 (w.1 89 (Int32.toNatClampNeg x4))))), none, some (.int (x3 + 1)), some (.int x4), none]) (st' := []) (w' := w2) (g := []) (K := []) (by decide +kernel) rfl rfl rfl rfl jk0 ?_
    refine ev_mask [true, true, false, true, false, false] ?_
    exact hk53 _ _ _ _ h
def f_Shares_greatestTogether_h67 (k53 : Int64 → Int32 → jW → Option (Int64 × jW)) : Nat → Int64 → Int32 → Int32 → Int32 → jW → Option (Int64 × jW)
  | 0, _, _, _, _, _ => none
  | n + 1, x1, x3, x4, x5, w =>
  if x5 < (w.1 87 2) then
    if x5 < (Int32.ofNat 5) then
      if x4 < (Int32.ofNat 5) then
        if jal [jin x4 5, jin x5 5] = true then
        if (w.1 89 (Int32.toNatClampNeg x5)) ≤ (w.1 89 (Int32.toNatClampNeg x4)) then
          (f_Shares_greatestTogether_h67 k53 n) x1 x3 x4 (x5 + 1) w
        else
          (f_Shares_greatestTogether_h67 k53 n) x1 x3 x5 (x5 + 1) w
        else none
      else
        (f_Shares_greatestTogether_h67 k53 n) x1 x3 x4 (x5 + 1) w
    else
      f_Shares_greatestTogether_j128 k53 x1 x3 x4 w
  else
    f_Shares_greatestTogether_j128 k53 x1 x3 x4 w
set_option maxRecDepth 20000 in
theorem t_Shares_greatestTogether_h67 {l : Launch} {G : jG} (hG : jX G) {kk : Nat} (hk : 93 ≤ kk) {k53 : Int64 → Int32 → jW → Option (Int64 × jW)} (hk53 : ∀ (x1 : Int64) (x3 : Int32) (w : jW) (z : (Int64 × jW)), k53 x1 x3 w = some z → Ev l G (jrm d_Shares_greatestTogether 0 0) y_Shares_greatestTogether (some (.long z.1), (jRx kk), z.2) 0 0 0 0 53 [some (.ref 87), some (.long x1), none, some (.int x3), none, none] [] (jRx kk) w) : ∀ (n : Nat) (x1 : Int64) (x3 : Int32) (x4 : Int32) (x5 : Int32) (w : jW) (z : (Int64 × jW)), f_Shares_greatestTogether_h67 k53 n x1 x3 x4 x5 w = some z → Ev l G (jrm d_Shares_greatestTogether 0 0) y_Shares_greatestTogether (some (.long z.1), (jRx kk), z.2) 0 0 0 0 67 [some (.ref 87), some (.long x1), none, some (.int x3), some (.int x4), some (.int x5)] [] (jRx kk) w := by
  intro n
  induction n with
  | zero => intro x1 x3 x4 x5 w z h; simp only [f_Shares_greatestTogether_h67] at h; cases h
  | succ n ih =>
    intro x1 x3 x4 x5 w z h
    rw [f_Shares_greatestTogether_h67] at h
    refine ev_seg (o := 5) (nL := 6) (q := 73) (xs := [(.iload 5, 2, 5, 0, .null), (.aload_n 0, 1, 0, 0, .null), (.getfield 30, 3, 5, 2, .int 0)]) (L' := [some (.ref 87), some (.long x1), none, some (.int x3), some (.int x4), some (.int x5)]) (st' := [.int (w.1 87 2), .int x5]) (w' := w) (g := []) (K := [(87, 5)]) (by decide +kernel) rfl rfl rfl rfl (jk1 (kz_87 hk) jk0) ?_
    refine ev_icmp_ge (off := 55) (tgt := 128) (by decide +kernel) (by decide) (fun c8 => ?_) (fun c8 => ?_)
    · replace h := jneg c8 h
      refine ev_mask [true, true, false, true, true, false] ?_
      exact t_Shares_greatestTogether_j128 hG hk hk53 h
    · replace h := jpos c8 h
      refine ev_seg (o := 5) (nL := 6) (q := 83) (xs := [(.iload 5, 2, 5, 0, .null), (.aload_n 0, 1, 0, 0, .null), (.getfield 15, 3, 5, 1, .ref 20), (.arraylength, 1, 20, 0, .null)]) (L' := [some (.ref 87), some (.long x1), none, some (.int x3), some (.int x4), some (.int x5)]) (st' := [.int (Int32.ofNat 5), .int x5]) (w' := w) (g := []) (K := [(89, 20), (89, 20), (87, 5)]) (by decide +kernel) rfl rfl rfl rfl (jk1 (kz_89 hk) (jk1 (kz_89 hk) (jk1 (kz_87 hk) jk0))) ?_
      refine ev_icmp_ge (off := 45) (tgt := 128) (by decide +kernel) (by decide) (fun c7 => ?_) (fun c7 => ?_)
      · replace h := jneg c7 h
        refine ev_mask [true, true, false, true, true, false] ?_
        exact t_Shares_greatestTogether_j128 hG hk hk53 h
      · replace h := jpos c7 h
        refine ev_seg (o := 5) (nL := 6) (q := 93) (xs := [(.iload 4, 2, 4, 0, .null), (.aload_n 0, 1, 0, 0, .null), (.getfield 15, 3, 5, 1, .ref 20), (.arraylength, 1, 20, 0, .null)]) (L' := [some (.ref 87), some (.long x1), none, some (.int x3), some (.int x4), some (.int x5)]) (st' := [.int (Int32.ofNat 5), .int x4]) (w' := w) (g := []) (K := [(89, 20), (89, 20), (87, 5)]) (by decide +kernel) rfl rfl rfl rfl (jk1 (kz_89 hk) (jk1 (kz_89 hk) (jk1 (kz_87 hk) jk0))) ?_
        refine ev_icmp_ge (off := 25) (tgt := 118) (by decide +kernel) (by decide) (fun c6 => ?_) (fun c6 => ?_)
        · replace h := jneg c6 h
          refine ev_seg (o := 5) (nL := 6) (q := 67) (xs := [(.iload 4, 2, 4, 0, .null), (.istore 4, 2, 4, 0, .null), (.iinc 5 1, 3, 5, 0, .int 1), (.goto (-58), 3, 0, 0, .null)]) (L' := [some (.ref 87), some (.long x1), none, some (.int x3), some (.int x4), some (.int (x5 + 1))]) (st' := []) (w' := w) (g := []) (K := []) (by decide +kernel) rfl rfl rfl rfl jk0 ?_
          refine ev_mask [true, true, false, true, true, true] ?_
          exact ih _ _ _ _ _ _ h
        · replace h := jpos c6 h
          obtain ⟨hg4, h⟩ := jgd h
          refine ev_seg (o := 5) (nL := 6) (q := 110) (xs := [(.aload_n 0, 1, 0, 0, .null), (.getfield 15, 3, 5, 1, .ref 20), (.iload 5, 2, 5, 0, .null), (.iaload, 1, 0, 0, .null), (.aload_n 0, 1, 0, 0, .null), (.getfield 15, 3, 5, 1, .ref 20), (.iload 4, 2, 4, 0, .null), (.iaload, 1, 0, 0, .null)]) (L' := [some (.ref 87), some (.long x1), none, some (.int x3), some (.int x4), some (.int x5)]) (st' := [.int (w.1 89 (Int32.toNatClampNeg x4)), .int (w.1 89 (Int32.toNatClampNeg x5))]) (w' := w) (g := [jin x4 5, jin x5 5]) (K := [(89, 20), (89, 20), (87, 5), (89, 20), (89, 20), (87, 5)]) (by decide +kernel) rfl rfl rfl hg4 (jk1 (kz_89 hk) (jk1 (kz_89 hk) (jk1 (kz_87 hk) (jk1 (kz_89 hk) (jk1 (kz_89 hk) (jk1 (kz_87 hk) jk0)))))) ?_
          refine ev_icmp_le (off := 8) (tgt := 118) (by decide +kernel) (by decide) (fun c5 => ?_) (fun c5 => ?_)
          · replace h := jpos c5 h
            refine ev_seg (o := 5) (nL := 6) (q := 67) (xs := [(.iload 4, 2, 4, 0, .null), (.istore 4, 2, 4, 0, .null), (.iinc 5 1, 3, 5, 0, .int 1), (.goto (-58), 3, 0, 0, .null)]) (L' := [some (.ref 87), some (.long x1), none, some (.int x3), some (.int x4), some (.int (x5 + 1))]) (st' := []) (w' := w) (g := []) (K := []) (by decide +kernel) rfl rfl rfl rfl jk0 ?_
            refine ev_mask [true, true, false, true, true, true] ?_
            exact ih _ _ _ _ _ _ h
          · replace h := jneg c5 h
            refine ev_seg (o := 5) (nL := 6) (q := 67) (xs := [(.iload 5, 2, 5, 0, .null), (.goto 5, 3, 0, 0, .null), (.istore 4, 2, 4, 0, .null), (.iinc 5 1, 3, 5, 0, .int 1), (.goto (-58), 3, 0, 0, .null)]) (L' := [some (.ref 87), some (.long x1), none, some (.int x3), some (.int x5), some (.int (x5 + 1))]) (st' := []) (w' := w) (g := []) (K := []) (by decide +kernel) rfl rfl rfl rfl jk0 ?_
            refine ev_mask [true, true, false, true, true, true] ?_
            exact ih _ _ _ _ _ _ h
def f_Shares_greatestTogether_h53 : Nat → Int64 → Int32 → jW → Option (Int64 × jW)
  | 0, _, _, _ => none
  | n + 1, x1, x3, w =>
  if x3 < (w.1 87 3) then
    f_Shares_greatestTogether_h67 (f_Shares_greatestTogether_h53 n) jfu x1 x3 0 1 w
  else
    some (x1, w)
set_option maxRecDepth 20000 in
theorem t_Shares_greatestTogether_h53 {l : Launch} {G : jG} (hG : jX G) {kk : Nat} (hk : 93 ≤ kk) : ∀ (n : Nat) (x1 : Int64) (x3 : Int32) (w : jW) (z : (Int64 × jW)), f_Shares_greatestTogether_h53 n x1 x3 w = some z → Ev l G (jrm d_Shares_greatestTogether 0 0) y_Shares_greatestTogether (some (.long z.1), (jRx kk), z.2) 0 0 0 0 53 [some (.ref 87), some (.long x1), none, some (.int x3), none, none] [] (jRx kk) w := by
  intro n
  induction n with
  | zero => intro x1 x3 w z h; simp only [f_Shares_greatestTogether_h53] at h; cases h
  | succ n ih =>
    intro x1 x3 w z h
    rw [f_Shares_greatestTogether_h53] at h
    refine ev_seg (o := 5) (nL := 6) (q := 58) (xs := [(.iload_n 3, 1, 3, 0, .null), (.aload_n 0, 1, 0, 0, .null), (.getfield 38, 3, 5, 3, .int 0)]) (L' := [some (.ref 87), some (.long x1), none, some (.int x3), none, none]) (st' := [.int (w.1 87 3), .int x3]) (w' := w) (g := []) (K := [(87, 5)]) (by decide +kernel) rfl rfl rfl rfl (jk1 (kz_87 hk) jk0) ?_
    refine ev_icmp_ge (off := 105) (tgt := 163) (by decide +kernel) (by decide) (fun c9 => ?_) (fun c9 => ?_)
    · replace h := jneg c9 h
      refine ev_seg (o := 5) (nL := 6) (q := 164) (xs := [(.lload_n 1, 1, 1, 0, .null)]) (L' := [some (.ref 87), some (.long x1), none, some (.int x3), none, none]) (st' := [.long x1]) (w' := w) (g := []) (K := []) (by decide +kernel) rfl rfl rfl rfl jk0 ?_
      cases h
      exact ev_lret (by decide +kernel) rfl rfl rfl rfl
    · replace h := jpos c9 h
      refine ev_seg (o := 5) (nL := 6) (q := 67) (xs := [(.iconst 0, 1, 0, 0, .int 0), (.istore 4, 2, 4, 0, .null), (.iconst 1, 1, 0, 0, .int 1), (.istore 5, 2, 5, 0, .null)]) (L' := [some (.ref 87), some (.long x1), none, some (.int x3), some (.int 0), some (.int 1)]) (st' := []) (w' := w) (g := []) (K := []) (by decide +kernel) rfl rfl rfl rfl jk0 ?_
      refine ev_mask [true, true, false, true, true, true] ?_
      exact t_Shares_greatestTogether_h67 hG hk ih jfu _ _ _ _ _ _ h
def f_Shares_greatestTogether_j51 (x1 : Int64) (w : jW) : Option (Int64 × jW) :=
  f_Shares_greatestTogether_h53 jfu x1 0 w
set_option maxRecDepth 20000 in
theorem t_Shares_greatestTogether_j51 {l : Launch} {G : jG} (hG : jX G) {kk : Nat} (hk : 93 ≤ kk) {x1 : Int64} {w : jW} {z : (Int64 × jW)} (h : f_Shares_greatestTogether_j51 x1 w = some z) : Ev l G (jrm d_Shares_greatestTogether 0 0) y_Shares_greatestTogether (some (.long z.1), (jRx kk), z.2) 0 0 0 0 51 [some (.ref 87), some (.long x1), none, none, none, none] [] (jRx kk) w := by
  rw [f_Shares_greatestTogether_j51] at h
  refine ev_seg (o := 5) (nL := 6) (q := 53) (xs := [(.iconst 0, 1, 0, 0, .int 0), (.istore_n 3, 1, 3, 0, .null)]) (L' := [some (.ref 87), some (.long x1), none, some (.int 0), none, none]) (st' := []) (w' := w) (g := []) (K := []) (by decide +kernel) rfl rfl rfl rfl jk0 ?_
  refine ev_mask [true, true, false, true, false, false] ?_
  exact t_Shares_greatestTogether_h53 hG hk jfu _ _ _ _ h
def f_Shares_greatestTogether_h4 : Nat → Int64 → Int32 → jW → Option (Int64 × jW)
  | 0, _, _, _ => none
  | n + 1, x1, x3, w =>
  if x3 < (w.1 87 2) then
    if x3 < (Int32.ofNat 5) then
      if x3 < (Int32.ofNat 5) then
        if jal [jin x3 5, jin x3 5, jin x3 5] = true then
        jlw ((jup w.1 89 (Int32.toNatClampNeg x3) ((w.1 89 (Int32.toNatClampNeg x3)) * (w.1 88 (Int32.toNatClampNeg x3)))), w.2) fun w11 =>
        (f_Shares_greatestTogether_h4 n) x1 (x3 + 1) w11
        else none
      else
        f_Shares_greatestTogether_j51 x1 w
    else
      f_Shares_greatestTogether_j51 x1 w
  else
    f_Shares_greatestTogether_j51 x1 w
set_option maxRecDepth 20000 in
theorem t_Shares_greatestTogether_h4 {l : Launch} {G : jG} (hG : jX G) {kk : Nat} (hk : 93 ≤ kk) : ∀ (n : Nat) (x1 : Int64) (x3 : Int32) (w : jW) (z : (Int64 × jW)), f_Shares_greatestTogether_h4 n x1 x3 w = some z → Ev l G (jrm d_Shares_greatestTogether 0 0) y_Shares_greatestTogether (some (.long z.1), (jRx kk), z.2) 0 0 0 0 4 [some (.ref 87), some (.long x1), none, some (.int x3), none, none] [] (jRx kk) w := by
  intro n
  induction n with
  | zero => intro x1 x3 w z h; simp only [f_Shares_greatestTogether_h4] at h; cases h
  | succ n ih =>
    intro x1 x3 w z h
    rw [f_Shares_greatestTogether_h4] at h
    refine ev_seg (o := 5) (nL := 6) (q := 9) (xs := [(.iload_n 3, 1, 3, 0, .null), (.aload_n 0, 1, 0, 0, .null), (.getfield 30, 3, 5, 2, .int 0)]) (L' := [some (.ref 87), some (.long x1), none, some (.int x3), none, none]) (st' := [.int (w.1 87 2), .int x3]) (w' := w) (g := []) (K := [(87, 5)]) (by decide +kernel) rfl rfl rfl rfl (jk1 (kz_87 hk) jk0) ?_
    refine ev_icmp_ge (off := 42) (tgt := 51) (by decide +kernel) (by decide) (fun c14 => ?_) (fun c14 => ?_)
    · replace h := jneg c14 h
      refine ev_mask [true, true, false, false, false, false] ?_
      exact t_Shares_greatestTogether_j51 hG hk h
    · replace h := jpos c14 h
      refine ev_seg (o := 5) (nL := 6) (q := 18) (xs := [(.iload_n 3, 1, 3, 0, .null), (.aload_n 0, 1, 0, 0, .null), (.getfield 15, 3, 5, 1, .ref 20), (.arraylength, 1, 20, 0, .null)]) (L' := [some (.ref 87), some (.long x1), none, some (.int x3), none, none]) (st' := [.int (Int32.ofNat 5), .int x3]) (w' := w) (g := []) (K := [(89, 20), (89, 20), (87, 5)]) (by decide +kernel) rfl rfl rfl rfl (jk1 (kz_89 hk) (jk1 (kz_89 hk) (jk1 (kz_87 hk) jk0))) ?_
      refine ev_icmp_ge (off := 33) (tgt := 51) (by decide +kernel) (by decide) (fun c13 => ?_) (fun c13 => ?_)
      · replace h := jneg c13 h
        refine ev_mask [true, true, false, false, false, false] ?_
        exact t_Shares_greatestTogether_j51 hG hk h
      · replace h := jpos c13 h
        refine ev_seg (o := 5) (nL := 6) (q := 27) (xs := [(.iload_n 3, 1, 3, 0, .null), (.aload_n 0, 1, 0, 0, .null), (.getfield 9, 3, 5, 0, .ref 20), (.arraylength, 1, 20, 0, .null)]) (L' := [some (.ref 87), some (.long x1), none, some (.int x3), none, none]) (st' := [.int (Int32.ofNat 5), .int x3]) (w' := w) (g := []) (K := [(88, 20), (88, 20), (87, 5)]) (by decide +kernel) rfl rfl rfl rfl (jk1 (kz_88 hk) (jk1 (kz_88 hk) (jk1 (kz_87 hk) jk0))) ?_
        refine ev_icmp_ge (off := 24) (tgt := 51) (by decide +kernel) (by decide) (fun c12 => ?_) (fun c12 => ?_)
        · replace h := jneg c12 h
          refine ev_mask [true, true, false, false, false, false] ?_
          exact t_Shares_greatestTogether_j51 hG hk h
        · replace h := jpos c12 h
          obtain ⟨hg10, h⟩ := jgd h
          refine ev_seg (o := 5) (nL := 6) (q := 45) (xs := [(.aload_n 0, 1, 0, 0, .null), (.getfield 15, 3, 5, 1, .ref 20), (.iload_n 3, 1, 3, 0, .null), (.dup2, 1, 0, 0, .null), (.iaload, 1, 0, 0, .null), (.aload_n 0, 1, 0, 0, .null), (.getfield 9, 3, 5, 0, .ref 20), (.iload_n 3, 1, 3, 0, .null), (.iaload, 1, 0, 0, .null), (.imul, 1, 0, 0, .null), (.iastore, 1, 0, 0, .null)]) (L' := [some (.ref 87), some (.long x1), none, some (.int x3), none, none]) (st' := []) (w' := ((jup w.1 89 (Int32.toNatClampNeg x3) ((w.1 89 (Int32.toNatClampNeg x3)) * (w.1 88 (Int32.toNatClampNeg x3)))), w.2)) (g := [jin x3 5, jin x3 5, jin x3 5]) (K := [(89, 20), (88, 20), (88, 20), (87, 5), (89, 20), (89, 20), (87, 5)]) (by decide +kernel) rfl rfl rfl hg10 (jk1 (kz_89 hk) (jk1 (kz_88 hk) (jk1 (kz_88 hk) (jk1 (kz_87 hk) (jk1 (kz_89 hk) (jk1 (kz_89 hk) (jk1 (kz_87 hk) jk0))))))) ?_
          refine jlw_c (P := fun w11 => Ev l G (jrm d_Shares_greatestTogether 0 0) y_Shares_greatestTogether (some (.long z.1), (jRx kk), z.2) 0 0 0 0 45 [some (.ref 87), some (.long x1), none, some (.int x3), none, none] [] (jRx kk) w11) h fun w11 h => ?_
          refine ev_seg (o := 5) (nL := 6) (q := 4) (xs := [(.iinc 3 1, 3, 3, 0, .int 1), (.goto (-44), 3, 0, 0, .null)]) (L' := [some (.ref 87), some (.long x1), none, some (.int (x3 + 1)), none, none]) (st' := []) (w' := w11) (g := []) (K := []) (by decide +kernel) rfl rfl rfl rfl jk0 ?_
          refine ev_mask [true, true, false, true, false, false] ?_
          exact ih _ _ _ _ h
def f_Shares_greatestTogether (w : jW) : Option (Int64 × jW) :=
  f_Shares_greatestTogether_h4 jfu 0 0 w
set_option maxRecDepth 20000 in
theorem e_Shares_greatestTogether {l : Launch} {G : jG} (hG : jX G) {kk : Nat} (hk : 93 ≤ kk) {w : jW} {z : (Int64 × jW)} (h : f_Shares_greatestTogether w = some z) : Ct l G y_Shares_greatestTogether d_Shares_greatestTogether 0 0 [.ref 87] (jRx kk) w (some (.long z.1), (jRx kk), z.2) := by
  rw [f_Shares_greatestTogether] at h
  refine Ct.of (L := [some (.ref 87), none, none, none, none, none]) (by decide) (Nat.le_of_ble_eq_true rfl) rfl ?_
  refine ev_seg (o := 5) (nL := 6) (q := 4) (xs := [(.lconst 0, 1, 0, 0, .long 0), (.lstore_n 1, 1, 1, 0, .null), (.iconst 0, 1, 0, 0, .int 0), (.istore_n 3, 1, 3, 0, .null)]) (L' := [some (.ref 87), some (.long 0), none, some (.int 0), none, none]) (st' := []) (w' := w) (g := []) (K := []) (by decide +kernel) rfl rfl rfl rfl jk0 ?_
  refine ev_mask [true, true, false, true, false, false] ?_
  exact t_Shares_greatestTogether_h4 hG hk jfu _ _ _ _ h
def f_Shares_prove_j60 (x1 : Int64) (w : jW) : Option (Int32 × jW) :=
  if (lg_cmp x1 0) = 0 then
    some ((-1), w)
  else
    Option.bind (f_Shares_greatestTogether w) fun q1 =>
    if (lg_cmp (q1.1 * (q1.2.2 87 5)) ((q1.2.2 87 4) * x1)) = 0 then
      some (0, q1.2)
    else
      some (1, q1.2)
set_option maxRecDepth 20000 in
theorem t_Shares_prove_j60 {l : Launch} {G : jG} (hG : jX G) {kk : Nat} (hk : 93 ≤ kk) {x1 : Int64} {w : jW} {z : (Int32 × jW)} (h : f_Shares_prove_j60 x1 w = some z) : Ev l G (jrm d_Shares_prove 0 0) y_Shares_prove (some (.int z.1), (jRx kk), z.2) 0 0 0 0 60 [some (.ref 87), some (.long x1), none, none] [] (jRx kk) w := by
  rw [f_Shares_prove_j60] at h
  refine ev_seg (o := 5) (nL := 4) (q := 63) (xs := [(.lload_n 1, 1, 1, 0, .null), (.lconst 0, 1, 0, 0, .long 0), (.lcmp, 1, 0, 0, .null)]) (L' := [some (.ref 87), some (.long x1), none, none]) (st' := [.int (lg_cmp x1 0)]) (w' := w) (g := []) (K := []) (by decide +kernel) rfl rfl rfl rfl jk0 ?_
  refine ev_if_ne (off := 5) (tgt := 68) (by decide +kernel) (by decide) (fun c3 => ?_) (fun c3 => ?_)
  · replace h := jneg c3 h
    refine ev_seg (o := 5) (nL := 4) (q := 69) (xs := [(.aload_n 0, 1, 0, 0, .null)]) (L' := [some (.ref 87), some (.long x1), none, none]) (st' := [.ref 87]) (w' := w) (g := []) (K := []) (by decide +kernel) rfl rfl rfl rfl jk0 ?_
    obtain ⟨q1, hq1, h⟩ := jbe h
    refine ev_callV (ci := 5) (a := 87) (y2 := y_Shares_greatestTogether) (o := 5) (idx := 60) (d2 := d_Shares_greatestTogether) (n := 0) (mc2 := 0) (ms2 := 0) (As := []) (st := []) (res2 := (some (.long q1.1), (jRx kk), q1.2)) (by decide +kernel) rfl lk_5_60 mo_Shares_greatestTogether mv_Shares_greatestTogether ⟨Nat.le_of_ble_eq_true rfl, Nat.le_of_ble_eq_true rfl⟩ rfl rfl (kz_87 hk) (by decide) rfl (Nat.le_of_ble_eq_true rfl) ⟨Nat.le_refl _, Nat.le_refl _⟩ hG (e_Shares_greatestTogether hG hk hq1) ?_
    refine ev_seg (o := 5) (nL := 4) (q := 84) (xs := [(.aload_n 0, 1, 0, 0, .null), (.getfield 57, 3, 5, 5, .long 0), (.lmul, 1, 0, 0, .null), (.aload_n 0, 1, 0, 0, .null), (.getfield 53, 3, 5, 4, .long 0), (.lload_n 1, 1, 1, 0, .null), (.lmul, 1, 0, 0, .null), (.lcmp, 1, 0, 0, .null)]) (L' := [some (.ref 87), some (.long x1), none, none]) (st' := [.int (lg_cmp (q1.1 * (q1.2.2 87 5)) ((q1.2.2 87 4) * x1))]) (w' := q1.2) (g := []) (K := [(87, 5), (87, 5)]) (by decide +kernel) rfl rfl rfl rfl (jk1 (kz_87 hk) (jk1 (kz_87 hk) jk0)) ?_
    refine ev_if_ne (off := 7) (tgt := 91) (by decide +kernel) (by decide) (fun c2 => ?_) (fun c2 => ?_)
    · replace h := jneg c2 h
      refine ev_seg (o := 5) (nL := 4) (q := 92) (xs := [(.iconst 1, 1, 0, 0, .int 1)]) (L' := [some (.ref 87), some (.long x1), none, none]) (st' := [.int 1]) (w' := q1.2) (g := []) (K := []) (by decide +kernel) rfl rfl rfl rfl jk0 ?_
      cases h
      exact ev_iret (by decide +kernel) rfl rfl rfl rfl
    · replace h := jpos c2 h
      refine ev_seg (o := 5) (nL := 4) (q := 92) (xs := [(.iconst 0, 1, 0, 0, .int 0), (.goto 4, 3, 0, 0, .null)]) (L' := [some (.ref 87), some (.long x1), none, none]) (st' := [.int 0]) (w' := q1.2) (g := []) (K := []) (by decide +kernel) rfl rfl rfl rfl jk0 ?_
      cases h
      exact ev_iret (by decide +kernel) rfl rfl rfl rfl
  · replace h := jpos c3 h
    refine ev_seg (o := 5) (nL := 4) (q := 67) (xs := [(.iconst (-1), 1, 0, 0, .int (-1))]) (L' := [some (.ref 87), some (.long x1), none, none]) (st' := [.int (-1)]) (w' := w) (g := []) (K := []) (by decide +kernel) rfl rfl rfl rfl jk0 ?_
    cases h
    exact ev_iret (by decide +kernel) rfl rfl rfl rfl
def f_Shares_prove_h4 : Nat → Int64 → Int32 → jW → Option (Int32 × jW)
  | 0, _, _, _ => none
  | n + 1, x1, x3, w =>
  if x3 < (w.1 87 2) then
    if x3 < (Int32.ofNat 5) then
      if jal [jin x3 5] = true then
      if (w.1 89 (Int32.toNatClampNeg x3)) < 0 then
        some ((-1), w)
      else
        if jal [jin x3 5] = true then
        if (w.1 89 (Int32.toNatClampNeg x3)) ≤ 999 then
          if jal [jin x3 5] = true then
          (f_Shares_prove_h4 n) (x1 + (Int32.toInt64 (w.1 89 (Int32.toNatClampNeg x3)))) (x3 + 1) w
          else none
        else
          some ((-1), w)
        else none
      else none
    else
      f_Shares_prove_j60 x1 w
  else
    f_Shares_prove_j60 x1 w
set_option maxRecDepth 20000 in
theorem t_Shares_prove_h4 {l : Launch} {G : jG} (hG : jX G) {kk : Nat} (hk : 93 ≤ kk) : ∀ (n : Nat) (x1 : Int64) (x3 : Int32) (w : jW) (z : (Int32 × jW)), f_Shares_prove_h4 n x1 x3 w = some z → Ev l G (jrm d_Shares_prove 0 0) y_Shares_prove (some (.int z.1), (jRx kk), z.2) 0 0 0 0 4 [some (.ref 87), some (.long x1), none, some (.int x3)] [] (jRx kk) w := by
  intro n
  induction n with
  | zero => intro x1 x3 w z h; simp only [f_Shares_prove_h4] at h; cases h
  | succ n ih =>
    intro x1 x3 w z h
    rw [f_Shares_prove_h4] at h
    refine ev_seg (o := 5) (nL := 4) (q := 9) (xs := [(.iload_n 3, 1, 3, 0, .null), (.aload_n 0, 1, 0, 0, .null), (.getfield 30, 3, 5, 2, .int 0)]) (L' := [some (.ref 87), some (.long x1), none, some (.int x3)]) (st' := [.int (w.1 87 2), .int x3]) (w' := w) (g := []) (K := [(87, 5)]) (by decide +kernel) rfl rfl rfl rfl (jk1 (kz_87 hk) jk0) ?_
    refine ev_icmp_ge (off := 51) (tgt := 60) (by decide +kernel) (by decide) (fun c10 => ?_) (fun c10 => ?_)
    · replace h := jneg c10 h
      refine ev_mask [true, true, false, false] ?_
      exact t_Shares_prove_j60 hG hk h
    · replace h := jpos c10 h
      refine ev_seg (o := 5) (nL := 4) (q := 18) (xs := [(.iload_n 3, 1, 3, 0, .null), (.aload_n 0, 1, 0, 0, .null), (.getfield 15, 3, 5, 1, .ref 20), (.arraylength, 1, 20, 0, .null)]) (L' := [some (.ref 87), some (.long x1), none, some (.int x3)]) (st' := [.int (Int32.ofNat 5), .int x3]) (w' := w) (g := []) (K := [(89, 20), (89, 20), (87, 5)]) (by decide +kernel) rfl rfl rfl rfl (jk1 (kz_89 hk) (jk1 (kz_89 hk) (jk1 (kz_87 hk) jk0))) ?_
      refine ev_icmp_ge (off := 42) (tgt := 60) (by decide +kernel) (by decide) (fun c9 => ?_) (fun c9 => ?_)
      · replace h := jneg c9 h
        refine ev_mask [true, true, false, false] ?_
        exact t_Shares_prove_j60 hG hk h
      · replace h := jpos c9 h
        obtain ⟨hg4, h⟩ := jgd h
        refine ev_seg (o := 5) (nL := 4) (q := 27) (xs := [(.aload_n 0, 1, 0, 0, .null), (.getfield 15, 3, 5, 1, .ref 20), (.iload_n 3, 1, 3, 0, .null), (.iaload, 1, 0, 0, .null)]) (L' := [some (.ref 87), some (.long x1), none, some (.int x3)]) (st' := [.int (w.1 89 (Int32.toNatClampNeg x3))]) (w' := w) (g := [jin x3 5]) (K := [(89, 20), (89, 20), (87, 5)]) (by decide +kernel) rfl rfl rfl hg4 (jk1 (kz_89 hk) (jk1 (kz_89 hk) (jk1 (kz_87 hk) jk0))) ?_
        refine ev_if_lt (off := 15) (tgt := 42) (by decide +kernel) (by decide) (fun c8 => ?_) (fun c8 => ?_)
        · replace h := jpos c8 h
          refine ev_seg (o := 5) (nL := 4) (q := 43) (xs := [(.iconst (-1), 1, 0, 0, .int (-1))]) (L' := [some (.ref 87), some (.long x1), none, some (.int x3)]) (st' := [.int (-1)]) (w' := w) (g := []) (K := []) (by decide +kernel) rfl rfl rfl rfl jk0 ?_
          cases h
          exact ev_iret (by decide +kernel) rfl rfl rfl rfl
        · replace h := jneg c8 h
          obtain ⟨hg5, h⟩ := jgd h
          refine ev_seg (o := 5) (nL := 4) (q := 39) (xs := [(.aload_n 0, 1, 0, 0, .null), (.getfield 15, 3, 5, 1, .ref 20), (.iload_n 3, 1, 3, 0, .null), (.iaload, 1, 0, 0, .null), (.sipush 999, 3, 0, 0, .int 999)]) (L' := [some (.ref 87), some (.long x1), none, some (.int x3)]) (st' := [.int 999, .int (w.1 89 (Int32.toNatClampNeg x3))]) (w' := w) (g := [jin x3 5]) (K := [(89, 20), (89, 20), (87, 5)]) (by decide +kernel) rfl rfl rfl hg5 (jk1 (kz_89 hk) (jk1 (kz_89 hk) (jk1 (kz_87 hk) jk0))) ?_
          refine ev_icmp_le (off := 5) (tgt := 44) (by decide +kernel) (by decide) (fun c7 => ?_) (fun c7 => ?_)
          · replace h := jpos c7 h
            obtain ⟨hg6, h⟩ := jgd h
            refine ev_seg (o := 5) (nL := 4) (q := 4) (xs := [(.lload_n 1, 1, 1, 0, .null), (.aload_n 0, 1, 0, 0, .null), (.getfield 15, 3, 5, 1, .ref 20), (.iload_n 3, 1, 3, 0, .null), (.iaload, 1, 0, 0, .null), (.i2l, 1, 0, 0, .null), (.ladd, 1, 0, 0, .null), (.lstore_n 1, 1, 1, 0, .null), (.iinc 3 1, 3, 3, 0, .int 1), (.goto (-53), 3, 0, 0, .null)]) (L' := [some (.ref 87), some (.long (x1 + (Int32.toInt64 (w.1 89 (Int32.toNatClampNeg x3))))), none, some (.int (x3 + 1))]) (st' := []) (w' := w) (g := [jin x3 5]) (K := [(89, 20), (89, 20), (87, 5)]) (by decide +kernel) rfl rfl rfl hg6 (jk1 (kz_89 hk) (jk1 (kz_89 hk) (jk1 (kz_87 hk) jk0))) ?_
            refine ev_mask [true, true, false, true] ?_
            exact ih _ _ _ _ h
          · replace h := jneg c7 h
            refine ev_seg (o := 5) (nL := 4) (q := 43) (xs := [(.iconst (-1), 1, 0, 0, .int (-1))]) (L' := [some (.ref 87), some (.long x1), none, some (.int x3)]) (st' := [.int (-1)]) (w' := w) (g := []) (K := []) (by decide +kernel) rfl rfl rfl rfl jk0 ?_
            cases h
            exact ev_iret (by decide +kernel) rfl rfl rfl rfl
def f_Shares_prove (w : jW) : Option (Int32 × jW) :=
  f_Shares_prove_h4 jfu 0 0 w
set_option maxRecDepth 20000 in
theorem e_Shares_prove {l : Launch} {G : jG} (hG : jX G) {kk : Nat} (hk : 93 ≤ kk) {w : jW} {z : (Int32 × jW)} (h : f_Shares_prove w = some z) : Ct l G y_Shares_prove d_Shares_prove 0 0 [.ref 87] (jRx kk) w (some (.int z.1), (jRx kk), z.2) := by
  rw [f_Shares_prove] at h
  refine Ct.of (L := [some (.ref 87), none, none, none]) (by decide) (Nat.le_of_ble_eq_true rfl) rfl ?_
  refine ev_seg (o := 5) (nL := 4) (q := 4) (xs := [(.lconst 0, 1, 0, 0, .long 0), (.lstore_n 1, 1, 1, 0, .null), (.iconst 0, 1, 0, 0, .int 0), (.istore_n 3, 1, 3, 0, .null)]) (L' := [some (.ref 87), some (.long 0), none, some (.int 0)]) (st' := []) (w' := w) (g := []) (K := []) (by decide +kernel) rfl rfl rfl rfl jk0 ?_
  refine ev_mask [true, true, false, true] ?_
  exact t_Shares_prove_h4 hG hk jfu _ _ _ _ h
def f_Count_proof (x1 : Int32) (x2 : Int32) (x3 : Int32) (x4 : Int32) (x5 : Int32) (x6 : Int32) (x7 : Int32) (w : jW) : Option (Int32 × jW) :=
  Option.bind (f_Shares_take x1 x2 w) fun q1 =>
  if q1.1 = 0 then
    some ((-1), q1.2)
  else
    Option.bind (f_Shares_weigh 0 x3 q1.2) fun q2 =>
    Option.bind (f_Shares_weigh 1 x4 q2) fun q3 =>
    Option.bind (f_Shares_weigh 2 x5 q3) fun q4 =>
    Option.bind (f_Shares_weigh 3 x6 q4) fun q5 =>
    Option.bind (f_Shares_weigh 4 x7 q5) fun q6 =>
    Option.bind (f_Shares_prove q6) fun q7 =>
    some (q7.1, q7.2)
set_option maxRecDepth 20000 in
theorem e_Count_proof {l : Launch} {G : jG} (hG : jX G) {kk : Nat} (hk : 93 ≤ kk) {x1 : Int32} {x2 : Int32} {x3 : Int32} {x4 : Int32} {x5 : Int32} {x6 : Int32} {x7 : Int32} {w : jW} {z : (Int32 × jW)} (h : f_Count_proof x1 x2 x3 x4 x5 x6 x7 w = some z) : Ct l G y_Count_proof d_Count_proof 0 0 [.ref 2, .int x1, .int x2, .int x3, .int x4, .int x5, .int x6, .int x7] (jRx kk) w (some (.int z.1), (jRx kk), z.2) := by
  rw [f_Count_proof] at h
  refine Ct.of (L := [some (.ref 2), some (.int x1), some (.int x2), some (.int x3), some (.int x4), some (.int x5), some (.int x6), some (.int x7)]) (by decide) (Nat.le_of_ble_eq_true rfl) rfl ?_
  refine ev_seg (o := 9) (nL := 8) (q := 10) (xs := [(.aload_n 0, 1, 0, 0, .null), (.getfield 43, 3, 9, 5, .ref 5), (.aload_n 0, 1, 0, 0, .null), (.getfield 12, 3, 9, 0, .ref 6), (.iload_n 1, 1, 1, 0, .null), (.iload_n 2, 1, 2, 0, .null)]) (L' := [some (.ref 2), some (.int x1), some (.int x2), some (.int x3), some (.int x4), some (.int x5), some (.int x6), some (.int x7)]) (st' := [.int x2, .int x1, .ref 3, .ref 87]) (w' := w) (g := []) (K := [(3, 6), (2, 9), (87, 5), (2, 9)]) (by decide +kernel) rfl rfl rfl rfl (jk1 (kz_3 hk) (jk1 (kz_2 hk) (jk1 (kz_87 hk) (jk1 (kz_2 hk) jk0)))) ?_
  obtain ⟨q1, hq1, h⟩ := jbe h
  refine ev_callV (ci := 5) (a := 87) (y2 := y_Shares_take) (o := 9) (idx := 271) (d2 := d_Shares_take) (n := 3) (mc2 := 0) (ms2 := 0) (As := [.ref 3, .int x1, .int x2]) (st := []) (res2 := (some (.int q1.1), (jRx kk), q1.2)) (by decide +kernel) rfl lk_9_271 mo_Shares_take mv_Shares_take ⟨Nat.le_of_ble_eq_true rfl, Nat.le_of_ble_eq_true rfl⟩ rfl rfl (kz_87 hk) (by decide) rfl (Nat.le_of_ble_eq_true rfl) ⟨Nat.le_refl _, Nat.le_refl _⟩ hG (e_Shares_take hG hk hq1) ?_
  refine ev_if_ne (off := 5) (tgt := 18) (by decide +kernel) (by decide) (fun c8 => ?_) (fun c8 => ?_)
  · replace h := jneg c8 h
    refine ev_seg (o := 9) (nL := 8) (q := 24) (xs := [(.aload_n 0, 1, 0, 0, .null), (.getfield 43, 3, 9, 5, .ref 5), (.iconst 0, 1, 0, 0, .int 0), (.iload_n 3, 1, 3, 0, .null)]) (L' := [some (.ref 2), some (.int x1), some (.int x2), some (.int x3), some (.int x4), some (.int x5), some (.int x6), some (.int x7)]) (st' := [.int x3, .int 0, .ref 87]) (w' := q1.2) (g := []) (K := [(87, 5), (2, 9)]) (by decide +kernel) rfl rfl rfl rfl (jk1 (kz_87 hk) (jk1 (kz_2 hk) jk0)) ?_
    obtain ⟨q2, hq2, h⟩ := jbe h
    refine ev_callV (ci := 5) (a := 87) (y2 := y_Shares_weigh) (o := 9) (idx := 287) (d2 := d_Shares_weigh) (n := 2) (mc2 := 0) (ms2 := 0) (As := [.int 0, .int x3]) (st := []) (res2 := (none, (jRx kk), q2)) (by decide +kernel) rfl lk_9_287 mo_Shares_weigh mv_Shares_weigh ⟨Nat.le_of_ble_eq_true rfl, Nat.le_of_ble_eq_true rfl⟩ rfl rfl (kz_87 hk) (by decide) rfl (Nat.le_of_ble_eq_true rfl) ⟨Nat.le_refl _, Nat.le_refl _⟩ hG (e_Shares_weigh hG hk hq2) ?_
    refine ev_seg (o := 9) (nL := 8) (q := 34) (xs := [(.aload_n 0, 1, 0, 0, .null), (.getfield 43, 3, 9, 5, .ref 5), (.iconst 1, 1, 0, 0, .int 1), (.iload 4, 2, 4, 0, .null)]) (L' := [some (.ref 2), some (.int x1), some (.int x2), some (.int x3), some (.int x4), some (.int x5), some (.int x6), some (.int x7)]) (st' := [.int x4, .int 1, .ref 87]) (w' := q2) (g := []) (K := [(87, 5), (2, 9)]) (by decide +kernel) rfl rfl rfl rfl (jk1 (kz_87 hk) (jk1 (kz_2 hk) jk0)) ?_
    obtain ⟨q3, hq3, h⟩ := jbe h
    refine ev_callV (ci := 5) (a := 87) (y2 := y_Shares_weigh) (o := 9) (idx := 287) (d2 := d_Shares_weigh) (n := 2) (mc2 := 0) (ms2 := 0) (As := [.int 1, .int x4]) (st := []) (res2 := (none, (jRx kk), q3)) (by decide +kernel) rfl lk_9_287 mo_Shares_weigh mv_Shares_weigh ⟨Nat.le_of_ble_eq_true rfl, Nat.le_of_ble_eq_true rfl⟩ rfl rfl (kz_87 hk) (by decide) rfl (Nat.le_of_ble_eq_true rfl) ⟨Nat.le_refl _, Nat.le_refl _⟩ hG (e_Shares_weigh hG hk hq3) ?_
    refine ev_seg (o := 9) (nL := 8) (q := 44) (xs := [(.aload_n 0, 1, 0, 0, .null), (.getfield 43, 3, 9, 5, .ref 5), (.iconst 2, 1, 0, 0, .int 2), (.iload 5, 2, 5, 0, .null)]) (L' := [some (.ref 2), some (.int x1), some (.int x2), some (.int x3), some (.int x4), some (.int x5), some (.int x6), some (.int x7)]) (st' := [.int x5, .int 2, .ref 87]) (w' := q3) (g := []) (K := [(87, 5), (2, 9)]) (by decide +kernel) rfl rfl rfl rfl (jk1 (kz_87 hk) (jk1 (kz_2 hk) jk0)) ?_
    obtain ⟨q4, hq4, h⟩ := jbe h
    refine ev_callV (ci := 5) (a := 87) (y2 := y_Shares_weigh) (o := 9) (idx := 287) (d2 := d_Shares_weigh) (n := 2) (mc2 := 0) (ms2 := 0) (As := [.int 2, .int x5]) (st := []) (res2 := (none, (jRx kk), q4)) (by decide +kernel) rfl lk_9_287 mo_Shares_weigh mv_Shares_weigh ⟨Nat.le_of_ble_eq_true rfl, Nat.le_of_ble_eq_true rfl⟩ rfl rfl (kz_87 hk) (by decide) rfl (Nat.le_of_ble_eq_true rfl) ⟨Nat.le_refl _, Nat.le_refl _⟩ hG (e_Shares_weigh hG hk hq4) ?_
    refine ev_seg (o := 9) (nL := 8) (q := 54) (xs := [(.aload_n 0, 1, 0, 0, .null), (.getfield 43, 3, 9, 5, .ref 5), (.iconst 3, 1, 0, 0, .int 3), (.iload 6, 2, 6, 0, .null)]) (L' := [some (.ref 2), some (.int x1), some (.int x2), some (.int x3), some (.int x4), some (.int x5), some (.int x6), some (.int x7)]) (st' := [.int x6, .int 3, .ref 87]) (w' := q4) (g := []) (K := [(87, 5), (2, 9)]) (by decide +kernel) rfl rfl rfl rfl (jk1 (kz_87 hk) (jk1 (kz_2 hk) jk0)) ?_
    obtain ⟨q5, hq5, h⟩ := jbe h
    refine ev_callV (ci := 5) (a := 87) (y2 := y_Shares_weigh) (o := 9) (idx := 287) (d2 := d_Shares_weigh) (n := 2) (mc2 := 0) (ms2 := 0) (As := [.int 3, .int x6]) (st := []) (res2 := (none, (jRx kk), q5)) (by decide +kernel) rfl lk_9_287 mo_Shares_weigh mv_Shares_weigh ⟨Nat.le_of_ble_eq_true rfl, Nat.le_of_ble_eq_true rfl⟩ rfl rfl (kz_87 hk) (by decide) rfl (Nat.le_of_ble_eq_true rfl) ⟨Nat.le_refl _, Nat.le_refl _⟩ hG (e_Shares_weigh hG hk hq5) ?_
    refine ev_seg (o := 9) (nL := 8) (q := 64) (xs := [(.aload_n 0, 1, 0, 0, .null), (.getfield 43, 3, 9, 5, .ref 5), (.iconst 4, 1, 0, 0, .int 4), (.iload 7, 2, 7, 0, .null)]) (L' := [some (.ref 2), some (.int x1), some (.int x2), some (.int x3), some (.int x4), some (.int x5), some (.int x6), some (.int x7)]) (st' := [.int x7, .int 4, .ref 87]) (w' := q5) (g := []) (K := [(87, 5), (2, 9)]) (by decide +kernel) rfl rfl rfl rfl (jk1 (kz_87 hk) (jk1 (kz_2 hk) jk0)) ?_
    obtain ⟨q6, hq6, h⟩ := jbe h
    refine ev_callV (ci := 5) (a := 87) (y2 := y_Shares_weigh) (o := 9) (idx := 287) (d2 := d_Shares_weigh) (n := 2) (mc2 := 0) (ms2 := 0) (As := [.int 4, .int x7]) (st := []) (res2 := (none, (jRx kk), q6)) (by decide +kernel) rfl lk_9_287 mo_Shares_weigh mv_Shares_weigh ⟨Nat.le_of_ble_eq_true rfl, Nat.le_of_ble_eq_true rfl⟩ rfl rfl (kz_87 hk) (by decide) rfl (Nat.le_of_ble_eq_true rfl) ⟨Nat.le_refl _, Nat.le_refl _⟩ hG (e_Shares_weigh hG hk hq6) ?_
    refine ev_seg (o := 9) (nL := 8) (q := 71) (xs := [(.aload_n 0, 1, 0, 0, .null), (.getfield 43, 3, 9, 5, .ref 5)]) (L' := [some (.ref 2), some (.int x1), some (.int x2), some (.int x3), some (.int x4), some (.int x5), some (.int x6), some (.int x7)]) (st' := [.ref 87]) (w' := q6) (g := []) (K := [(87, 5), (2, 9)]) (by decide +kernel) rfl rfl rfl rfl (jk1 (kz_87 hk) (jk1 (kz_2 hk) jk0)) ?_
    obtain ⟨q7, hq7, h⟩ := jbe h
    refine ev_callV (ci := 5) (a := 87) (y2 := y_Shares_prove) (o := 9) (idx := 291) (d2 := d_Shares_prove) (n := 0) (mc2 := 0) (ms2 := 0) (As := []) (st := []) (res2 := (some (.int q7.1), (jRx kk), q7.2)) (by decide +kernel) rfl lk_9_291 mo_Shares_prove mv_Shares_prove ⟨Nat.le_of_ble_eq_true rfl, Nat.le_of_ble_eq_true rfl⟩ rfl rfl (kz_87 hk) (by decide) rfl (Nat.le_of_ble_eq_true rfl) ⟨Nat.le_refl _, Nat.le_refl _⟩ hG (e_Shares_prove hG hk hq7) ?_
    cases h
    exact ev_iret (by decide +kernel) rfl rfl rfl rfl
  · replace h := jpos c8 h
    refine ev_seg (o := 9) (nL := 8) (q := 17) (xs := [(.iconst (-1), 1, 0, 0, .int (-1))]) (L' := [some (.ref 2), some (.int x1), some (.int x2), some (.int x3), some (.int x4), some (.int x5), some (.int x6), some (.int x7)]) (st' := [.int (-1)]) (w' := q1.2) (g := []) (K := []) (by decide +kernel) rfl rfl rfl rfl jk0 ?_
    cases h
    exact ev_iret (by decide +kernel) rfl rfl rfl rfl
def f_Search_markClosed_h2 : Nat → Int32 → jW → Option jW
  | 0, _, _ => none
  | n + 1, x2, w =>
  Option.bind (f_Rows_count 6 w) fun q1 =>
  if x2 < q1.1 then
    if x2 < (Int32.ofNat 10) then
      Option.bind (f_Rows_at 6 x2 2 q1.2) fun q2 =>
      if q2.1 = 1 then
        if jal [jbo 1, jin x2 10] = true then
        jlw ((jup q2.2.1 91 (Int32.toNatClampNeg x2) 1), q2.2.2) fun w4 =>
        (f_Search_markClosed_h2 n) (x2 + 1) w4
        else none
      else
        Option.bind (f_State_isSealed x2 q2.2) fun q5 =>
        if q5.1 = 0 then
          if jal [jbo 0, jin x2 10] = true then
          jlw ((jup q5.2.1 91 (Int32.toNatClampNeg x2) 0), q5.2.2) fun w7 =>
          (f_Search_markClosed_h2 n) (x2 + 1) w7
          else none
        else
          if jal [jbo 1, jin x2 10] = true then
          jlw ((jup q5.2.1 91 (Int32.toNatClampNeg x2) 1), q5.2.2) fun w9 =>
          (f_Search_markClosed_h2 n) (x2 + 1) w9
          else none
    else
      some q1.2
  else
    some q1.2
set_option maxRecDepth 20000 in
theorem t_Search_markClosed_h2 {l : Launch} {G : jG} (hG : jX G) {kk : Nat} (hk : 93 ≤ kk) : ∀ (n : Nat) (x2 : Int32) (w : jW) (z : jW), f_Search_markClosed_h2 n x2 w = some z → Ev l G (jrm d_Search_markClosed 0 0) y_Search_markClosed (none, (jRx kk), z) 0 0 0 0 2 [some (.ref 90), some (.ref 3), some (.int x2)] [] (jRx kk) w := by
  intro n
  induction n with
  | zero => intro x2 w z h; simp only [f_Search_markClosed_h2] at h; cases h
  | succ n ih =>
    intro x2 w z h
    rw [f_Search_markClosed_h2] at h
    refine ev_seg (o := 4) (nL := 3) (q := 7) (xs := [(.iload_n 2, 1, 2, 0, .null), (.aload_n 1, 1, 1, 0, .null), (.getfield 61, 3, 6, 6, .ref 3)]) (L' := [some (.ref 90), some (.ref 3), some (.int x2)]) (st' := [.ref 6, .int x2]) (w' := w) (g := []) (K := [(6, 3), (3, 6)]) (by decide +kernel) rfl rfl rfl rfl (jk1 (kz_6 hk) (jk1 (kz_3 hk) jk0)) ?_
    obtain ⟨q1, hq1, h⟩ := jbe h
    refine ev_callV (ci := 3) (a := 6) (y2 := y_Rows_count) (o := 4) (idx := 45) (d2 := d_Rows_count) (n := 0) (mc2 := 0) (ms2 := 0) (As := []) (st := [.int x2]) (res2 := (some (.int q1.1), (jRx kk), q1.2)) (by decide +kernel) rfl lk_4_45 mo_Rows_count mv_Rows_count ⟨Nat.le_of_ble_eq_true rfl, Nat.le_of_ble_eq_true rfl⟩ rfl rfl (kz_6 hk) (by decide) rfl (Nat.le_of_ble_eq_true rfl) ⟨Nat.le_refl _, Nat.le_refl _⟩ hG (e_Rows_count hG hk (kz_6 hk) hq1) ?_
    refine ev_icmp_ge (off := 50) (tgt := 60) (by decide +kernel) (by decide) (fun c13 => ?_) (fun c13 => ?_)
    · replace h := jneg c13 h
      cases h
      exact ev_vret (by decide +kernel) rfl rfl rfl rfl
    · replace h := jpos c13 h
      refine ev_seg (o := 4) (nL := 3) (q := 19) (xs := [(.iload_n 2, 1, 2, 0, .null), (.aload_n 0, 1, 0, 0, .null), (.getfield 9, 3, 4, 0, .ref 21), (.arraylength, 1, 21, 0, .null)]) (L' := [some (.ref 90), some (.ref 3), some (.int x2)]) (st' := [.int (Int32.ofNat 10), .int x2]) (w' := q1.2) (g := []) (K := [(91, 21), (91, 21), (90, 4)]) (by decide +kernel) rfl rfl rfl rfl (jk1 (kz_91 hk) (jk1 (kz_91 hk) (jk1 (kz_90 hk) jk0))) ?_
      refine ev_icmp_ge (off := 41) (tgt := 60) (by decide +kernel) (by decide) (fun c12 => ?_) (fun c12 => ?_)
      · replace h := jneg c12 h
        cases h
        exact ev_vret (by decide +kernel) rfl rfl rfl rfl
      · replace h := jpos c12 h
        refine ev_seg (o := 4) (nL := 3) (q := 33) (xs := [(.aload_n 0, 1, 0, 0, .null), (.getfield 9, 3, 4, 0, .ref 21), (.iload_n 2, 1, 2, 0, .null), (.aload_n 1, 1, 1, 0, .null), (.getfield 61, 3, 6, 6, .ref 3), (.iload_n 2, 1, 2, 0, .null), (.iconst 2, 1, 0, 0, .int 2)]) (L' := [some (.ref 90), some (.ref 3), some (.int x2)]) (st' := [.int 2, .int x2, .ref 6, .int x2, .ref 91]) (w' := q1.2) (g := []) (K := [(6, 3), (3, 6), (91, 21), (90, 4)]) (by decide +kernel) rfl rfl rfl rfl (jk1 (kz_6 hk) (jk1 (kz_3 hk) (jk1 (kz_91 hk) (jk1 (kz_90 hk) jk0)))) ?_
        obtain ⟨q2, hq2, h⟩ := jbe h
        refine ev_callV (ci := 3) (a := 6) (y2 := y_Rows_at) (o := 4) (idx := 54) (d2 := d_Rows_at) (n := 2) (mc2 := 0) (ms2 := 0) (As := [.int x2, .int 2]) (st := [.int x2, .ref 91]) (res2 := (some (.int q2.1), (jRx kk), q2.2)) (by decide +kernel) rfl lk_4_54 mo_Rows_at mv_Rows_at ⟨Nat.le_of_ble_eq_true rfl, Nat.le_of_ble_eq_true rfl⟩ rfl rfl (kz_6 hk) (by decide) rfl (Nat.le_of_ble_eq_true rfl) ⟨Nat.le_refl _, Nat.le_refl _⟩ hG (e_Rows_at hG hk (kz_6 hk) hq2) ?_
        refine ev_seg (o := 4) (nL := 3) (q := 37) (xs := [(.iconst 1, 1, 0, 0, .int 1)]) (L' := [some (.ref 90), some (.ref 3), some (.int x2)]) (st' := [.int 1, .int q2.1, .int x2, .ref 91]) (w' := q2.2) (g := []) (K := []) (by decide +kernel) rfl rfl rfl rfl jk0 ?_
        refine ev_icmp_eq (off := 11) (tgt := 48) (by decide +kernel) (by decide) (fun c11 => ?_) (fun c11 => ?_)
        · replace h := jpos c11 h
          obtain ⟨hg3, h⟩ := jgd h
          refine ev_seg (o := 4) (nL := 3) (q := 54) (xs := [(.iconst 1, 1, 0, 0, .int 1), (.goto 4, 3, 0, 0, .null), (.bastore, 1, 0, 0, .null)]) (L' := [some (.ref 90), some (.ref 3), some (.int x2)]) (st' := []) (w' := ((jup q2.2.1 91 (Int32.toNatClampNeg x2) 1), q2.2.2)) (g := [jbo 1, jin x2 10]) (K := [(91, 21)]) (by decide +kernel) rfl rfl rfl hg3 (jk1 (kz_91 hk) jk0) ?_
          refine jlw_c (P := fun w4 => Ev l G (jrm d_Search_markClosed 0 0) y_Search_markClosed (none, (jRx kk), z) 0 0 0 0 54 [some (.ref 90), some (.ref 3), some (.int x2)] [] (jRx kk) w4) h fun w4 h => ?_
          refine ev_seg (o := 4) (nL := 3) (q := 2) (xs := [(.iinc 2 1, 3, 2, 0, .int 1), (.goto (-55), 3, 0, 0, .null)]) (L' := [some (.ref 90), some (.ref 3), some (.int (x2 + 1))]) (st' := []) (w' := w4) (g := []) (K := []) (by decide +kernel) rfl rfl rfl rfl jk0 ?_
          refine ev_mask [true, true, true] ?_
          exact ih _ _ _ h
        · replace h := jneg c11 h
          refine ev_seg (o := 4) (nL := 3) (q := 42) (xs := [(.aload_n 1, 1, 1, 0, .null), (.iload_n 2, 1, 2, 0, .null)]) (L' := [some (.ref 90), some (.ref 3), some (.int x2)]) (st' := [.int x2, .ref 3, .int x2, .ref 91]) (w' := q2.2) (g := []) (K := []) (by decide +kernel) rfl rfl rfl rfl jk0 ?_
          obtain ⟨q5, hq5, h⟩ := jbe h
          refine ev_callV (ci := 6) (a := 3) (y2 := y_State_isSealed) (o := 4) (idx := 87) (d2 := d_State_isSealed) (n := 1) (mc2 := 0) (ms2 := 0) (As := [.int x2]) (st := [.int x2, .ref 91]) (res2 := (some (.int q5.1), (jRx kk), q5.2)) (by decide +kernel) rfl lk_4_87 mo_State_isSealed mv_State_isSealed ⟨Nat.le_of_ble_eq_true rfl, Nat.le_of_ble_eq_true rfl⟩ rfl rfl (kz_3 hk) (by decide) rfl (Nat.le_of_ble_eq_true rfl) ⟨Nat.le_refl _, Nat.le_refl _⟩ hG (e_State_isSealed hG hk hq5) ?_
          refine ev_if_eq (off := 7) (tgt := 52) (by decide +kernel) (by decide) (fun c10 => ?_) (fun c10 => ?_)
          · replace h := jpos c10 h
            obtain ⟨hg6, h⟩ := jgd h
            refine ev_seg (o := 4) (nL := 3) (q := 54) (xs := [(.iconst 0, 1, 0, 0, .int 0), (.bastore, 1, 0, 0, .null)]) (L' := [some (.ref 90), some (.ref 3), some (.int x2)]) (st' := []) (w' := ((jup q5.2.1 91 (Int32.toNatClampNeg x2) 0), q5.2.2)) (g := [jbo 0, jin x2 10]) (K := [(91, 21)]) (by decide +kernel) rfl rfl rfl hg6 (jk1 (kz_91 hk) jk0) ?_
            refine jlw_c (P := fun w7 => Ev l G (jrm d_Search_markClosed 0 0) y_Search_markClosed (none, (jRx kk), z) 0 0 0 0 54 [some (.ref 90), some (.ref 3), some (.int x2)] [] (jRx kk) w7) h fun w7 h => ?_
            refine ev_seg (o := 4) (nL := 3) (q := 2) (xs := [(.iinc 2 1, 3, 2, 0, .int 1), (.goto (-55), 3, 0, 0, .null)]) (L' := [some (.ref 90), some (.ref 3), some (.int (x2 + 1))]) (st' := []) (w' := w7) (g := []) (K := []) (by decide +kernel) rfl rfl rfl rfl jk0 ?_
            refine ev_mask [true, true, true] ?_
            exact ih _ _ _ h
          · replace h := jneg c10 h
            obtain ⟨hg8, h⟩ := jgd h
            refine ev_seg (o := 4) (nL := 3) (q := 54) (xs := [(.iconst 1, 1, 0, 0, .int 1), (.goto 4, 3, 0, 0, .null), (.bastore, 1, 0, 0, .null)]) (L' := [some (.ref 90), some (.ref 3), some (.int x2)]) (st' := []) (w' := ((jup q5.2.1 91 (Int32.toNatClampNeg x2) 1), q5.2.2)) (g := [jbo 1, jin x2 10]) (K := [(91, 21)]) (by decide +kernel) rfl rfl rfl hg8 (jk1 (kz_91 hk) jk0) ?_
            refine jlw_c (P := fun w9 => Ev l G (jrm d_Search_markClosed 0 0) y_Search_markClosed (none, (jRx kk), z) 0 0 0 0 54 [some (.ref 90), some (.ref 3), some (.int x2)] [] (jRx kk) w9) h fun w9 h => ?_
            refine ev_seg (o := 4) (nL := 3) (q := 2) (xs := [(.iinc 2 1, 3, 2, 0, .int 1), (.goto (-55), 3, 0, 0, .null)]) (L' := [some (.ref 90), some (.ref 3), some (.int (x2 + 1))]) (st' := []) (w' := w9) (g := []) (K := []) (by decide +kernel) rfl rfl rfl rfl jk0 ?_
            refine ev_mask [true, true, true] ?_
            exact ih _ _ _ h
def f_Search_markClosed (w : jW) : Option jW :=
  f_Search_markClosed_h2 jfu 0 w
set_option maxRecDepth 20000 in
theorem e_Search_markClosed {l : Launch} {G : jG} (hG : jX G) {kk : Nat} (hk : 93 ≤ kk) {w : jW} {z : jW} (h : f_Search_markClosed w = some z) : Ct l G y_Search_markClosed d_Search_markClosed 0 0 [.ref 90, .ref 3] (jRx kk) w (none, (jRx kk), z) := by
  rw [f_Search_markClosed] at h
  refine Ct.of (L := [some (.ref 90), some (.ref 3), none]) (by decide) (Nat.le_of_ble_eq_true rfl) rfl ?_
  refine ev_seg (o := 4) (nL := 3) (q := 2) (xs := [(.iconst 0, 1, 0, 0, .int 0), (.istore_n 2, 1, 2, 0, .null)]) (L' := [some (.ref 90), some (.ref 3), some (.int 0)]) (st' := []) (w' := w) (g := []) (K := []) (by decide +kernel) rfl rfl rfl rfl jk0 ?_
  refine ev_mask [true, true, true] ?_
  exact t_Search_markClosed_h2 hG hk jfu _ _ _ h
def f_Search_markEyes_j107 (k26 : Int32 → Int32 → jW → Option jW) (x2 : Int32) (x3 : Int32) (x5 : Int32) (x6 : Int32) (s0 : Int32) (w : jW) : Option jW :=
  if x5 < (w.1 3 0) then
    k26 x2 (x3 + 1) w
  else
    if x5 < ((w.1 3 0) + x2) then
      if s0 = 0 then
        if x6 < 0 then
          k26 x2 (x3 + 1) w
        else
          if x6 < (Int32.ofNat 300) then
            if jal [jbo 1, jin x6 300] = true then
            jlw ((jup w.1 92 (Int32.toNatClampNeg x6) 1), w.2) fun w6 =>
            k26 x2 (x3 + 1) w6
            else none
          else
            k26 x2 (x3 + 1) w
      else
        k26 x2 (x3 + 1) w
    else
      k26 x2 (x3 + 1) w
set_option maxRecDepth 20000 in
theorem t_Search_markEyes_j107 {l : Launch} {G : jG} (hG : jX G) {kk : Nat} (hk : 93 ≤ kk) {k26 : Int32 → Int32 → jW → Option jW} (hk26 : ∀ (x2 : Int32) (x3 : Int32) (w : jW) (z : jW), k26 x2 x3 w = some z → Ev l G (jrm d_Search_markEyes 0 0) y_Search_markEyes (none, (jRx kk), z) 0 0 0 0 26 [some (.ref 90), some (.ref 3), some (.int x2), some (.int x3), none, none, none, none] [] (jRx kk) w) {x2 : Int32} {x3 : Int32} {x5 : Int32} {x6 : Int32} {s0 : Int32} {w : jW} {z : jW} (h : f_Search_markEyes_j107 k26 x2 x3 x5 x6 s0 w = some z) : Ev l G (jrm d_Search_markEyes 0 0) y_Search_markEyes (none, (jRx kk), z) 0 0 0 0 107 [some (.ref 90), some (.ref 3), some (.int x2), some (.int x3), none, some (.int x5), some (.int x6), none] [.int s0] (jRx kk) w := by
  rw [f_Search_markEyes_j107] at h
  refine ev_seg (o := 4) (nL := 8) (q := 115) (xs := [(.istore 7, 2, 7, 0, .null), (.iload 5, 2, 5, 0, .null), (.aload_n 1, 1, 1, 0, .null), (.getfield 22, 3, 6, 0, .int 0)]) (L' := [some (.ref 90), some (.ref 3), some (.int x2), some (.int x3), none, some (.int x5), some (.int x6), some (.int s0)]) (st' := [.int (w.1 3 0), .int x5]) (w' := w) (g := []) (K := [(3, 6)]) (by decide +kernel) rfl rfl rfl rfl (jk1 (kz_3 hk) jk0) ?_
  refine ev_icmp_lt (off := 42) (tgt := 157) (by decide +kernel) (by decide) (fun c11 => ?_) (fun c11 => ?_)
  · replace h := jpos c11 h
    refine ev_seg (o := 4) (nL := 8) (q := 26) (xs := [(.iinc 3 1, 3, 3, 0, .int 1), (.goto (-134), 3, 0, 0, .null)]) (L' := [some (.ref 90), some (.ref 3), some (.int x2), some (.int (x3 + 1)), none, some (.int x5), some (.int x6), some (.int s0)]) (st' := []) (w' := w) (g := []) (K := []) (by decide +kernel) rfl rfl rfl rfl jk0 ?_
    refine ev_mask [true, true, true, true, false, false, false, false] ?_
    exact hk26 _ _ _ _ h
  · replace h := jneg c11 h
    refine ev_seg (o := 4) (nL := 8) (q := 126) (xs := [(.iload 5, 2, 5, 0, .null), (.aload_n 1, 1, 1, 0, .null), (.getfield 22, 3, 6, 0, .int 0), (.iload_n 2, 1, 2, 0, .null), (.iadd, 1, 0, 0, .null)]) (L' := [some (.ref 90), some (.ref 3), some (.int x2), some (.int x3), none, some (.int x5), some (.int x6), some (.int s0)]) (st' := [.int ((w.1 3 0) + x2), .int x5]) (w' := w) (g := []) (K := [(3, 6)]) (by decide +kernel) rfl rfl rfl rfl (jk1 (kz_3 hk) jk0) ?_
    refine ev_icmp_ge (off := 31) (tgt := 157) (by decide +kernel) (by decide) (fun c10 => ?_) (fun c10 => ?_)
    · replace h := jneg c10 h
      refine ev_seg (o := 4) (nL := 8) (q := 26) (xs := [(.iinc 3 1, 3, 3, 0, .int 1), (.goto (-134), 3, 0, 0, .null)]) (L' := [some (.ref 90), some (.ref 3), some (.int x2), some (.int (x3 + 1)), none, some (.int x5), some (.int x6), some (.int s0)]) (st' := []) (w' := w) (g := []) (K := []) (by decide +kernel) rfl rfl rfl rfl jk0 ?_
      refine ev_mask [true, true, true, true, false, false, false, false] ?_
      exact hk26 _ _ _ _ h
    · replace h := jpos c10 h
      refine ev_seg (o := 4) (nL := 8) (q := 131) (xs := [(.iload 7, 2, 7, 0, .null)]) (L' := [some (.ref 90), some (.ref 3), some (.int x2), some (.int x3), none, some (.int x5), some (.int x6), some (.int s0)]) (st' := [.int s0]) (w' := w) (g := []) (K := []) (by decide +kernel) rfl rfl rfl rfl jk0 ?_
      refine ev_if_ne (off := 26) (tgt := 157) (by decide +kernel) (by decide) (fun c9 => ?_) (fun c9 => ?_)
      · replace h := jneg c9 h
        refine ev_seg (o := 4) (nL := 8) (q := 26) (xs := [(.iinc 3 1, 3, 3, 0, .int 1), (.goto (-134), 3, 0, 0, .null)]) (L' := [some (.ref 90), some (.ref 3), some (.int x2), some (.int (x3 + 1)), none, some (.int x5), some (.int x6), some (.int s0)]) (st' := []) (w' := w) (g := []) (K := []) (by decide +kernel) rfl rfl rfl rfl jk0 ?_
        refine ev_mask [true, true, true, true, false, false, false, false] ?_
        exact hk26 _ _ _ _ h
      · replace h := jpos c9 h
        refine ev_seg (o := 4) (nL := 8) (q := 136) (xs := [(.iload 6, 2, 6, 0, .null)]) (L' := [some (.ref 90), some (.ref 3), some (.int x2), some (.int x3), none, some (.int x5), some (.int x6), some (.int s0)]) (st' := [.int x6]) (w' := w) (g := []) (K := []) (by decide +kernel) rfl rfl rfl rfl jk0 ?_
        refine ev_if_lt (off := 21) (tgt := 157) (by decide +kernel) (by decide) (fun c8 => ?_) (fun c8 => ?_)
        · replace h := jpos c8 h
          refine ev_seg (o := 4) (nL := 8) (q := 26) (xs := [(.iinc 3 1, 3, 3, 0, .int 1), (.goto (-134), 3, 0, 0, .null)]) (L' := [some (.ref 90), some (.ref 3), some (.int x2), some (.int (x3 + 1)), none, some (.int x5), some (.int x6), some (.int s0)]) (st' := []) (w' := w) (g := []) (K := []) (by decide +kernel) rfl rfl rfl rfl jk0 ?_
          refine ev_mask [true, true, true, true, false, false, false, false] ?_
          exact hk26 _ _ _ _ h
        · replace h := jneg c8 h
          refine ev_seg (o := 4) (nL := 8) (q := 146) (xs := [(.iload 6, 2, 6, 0, .null), (.aload_n 0, 1, 0, 0, .null), (.getfield 15, 3, 4, 1, .ref 21), (.arraylength, 1, 21, 0, .null)]) (L' := [some (.ref 90), some (.ref 3), some (.int x2), some (.int x3), none, some (.int x5), some (.int x6), some (.int s0)]) (st' := [.int (Int32.ofNat 300), .int x6]) (w' := w) (g := []) (K := [(92, 21), (92, 21), (90, 4)]) (by decide +kernel) rfl rfl rfl rfl (jk1 (kz_92 hk) (jk1 (kz_92 hk) (jk1 (kz_90 hk) jk0))) ?_
          refine ev_icmp_ge (off := 11) (tgt := 157) (by decide +kernel) (by decide) (fun c7 => ?_) (fun c7 => ?_)
          · replace h := jneg c7 h
            refine ev_seg (o := 4) (nL := 8) (q := 26) (xs := [(.iinc 3 1, 3, 3, 0, .int 1), (.goto (-134), 3, 0, 0, .null)]) (L' := [some (.ref 90), some (.ref 3), some (.int x2), some (.int (x3 + 1)), none, some (.int x5), some (.int x6), some (.int s0)]) (st' := []) (w' := w) (g := []) (K := []) (by decide +kernel) rfl rfl rfl rfl jk0 ?_
            refine ev_mask [true, true, true, true, false, false, false, false] ?_
            exact hk26 _ _ _ _ h
          · replace h := jpos c7 h
            obtain ⟨hg5, h⟩ := jgd h
            refine ev_seg (o := 4) (nL := 8) (q := 157) (xs := [(.aload_n 0, 1, 0, 0, .null), (.getfield 15, 3, 4, 1, .ref 21), (.iload 6, 2, 6, 0, .null), (.iconst 1, 1, 0, 0, .int 1), (.bastore, 1, 0, 0, .null)]) (L' := [some (.ref 90), some (.ref 3), some (.int x2), some (.int x3), none, some (.int x5), some (.int x6), some (.int s0)]) (st' := []) (w' := ((jup w.1 92 (Int32.toNatClampNeg x6) 1), w.2)) (g := [jbo 1, jin x6 300]) (K := [(92, 21), (92, 21), (90, 4)]) (by decide +kernel) rfl rfl rfl hg5 (jk1 (kz_92 hk) (jk1 (kz_92 hk) (jk1 (kz_90 hk) jk0))) ?_
            refine jlw_c (P := fun w6 => Ev l G (jrm d_Search_markEyes 0 0) y_Search_markEyes (none, (jRx kk), z) 0 0 0 0 157 [some (.ref 90), some (.ref 3), some (.int x2), some (.int x3), none, some (.int x5), some (.int x6), some (.int s0)] [] (jRx kk) w6) h fun w6 h => ?_
            refine ev_seg (o := 4) (nL := 8) (q := 26) (xs := [(.iinc 3 1, 3, 3, 0, .int 1), (.goto (-134), 3, 0, 0, .null)]) (L' := [some (.ref 90), some (.ref 3), some (.int x2), some (.int (x3 + 1)), none, some (.int x5), some (.int x6), some (.int s0)]) (st' := []) (w' := w6) (g := []) (K := []) (by decide +kernel) rfl rfl rfl rfl jk0 ?_
            refine ev_mask [true, true, true, true, false, false, false, false] ?_
            exact hk26 _ _ _ _ h
def f_Search_markEyes_j102 (k26 : Int32 → Int32 → jW → Option jW) (x2 : Int32) (x3 : Int32) (x5 : Int32) (x6 : Int32) (w : jW) : Option jW :=
  f_Search_markEyes_j107 k26 x2 x3 x5 x6 1 w
set_option maxRecDepth 20000 in
theorem t_Search_markEyes_j102 {l : Launch} {G : jG} (hG : jX G) {kk : Nat} (hk : 93 ≤ kk) {k26 : Int32 → Int32 → jW → Option jW} (hk26 : ∀ (x2 : Int32) (x3 : Int32) (w : jW) (z : jW), k26 x2 x3 w = some z → Ev l G (jrm d_Search_markEyes 0 0) y_Search_markEyes (none, (jRx kk), z) 0 0 0 0 26 [some (.ref 90), some (.ref 3), some (.int x2), some (.int x3), none, none, none, none] [] (jRx kk) w) {x2 : Int32} {x3 : Int32} {x5 : Int32} {x6 : Int32} {w : jW} {z : jW} (h : f_Search_markEyes_j102 k26 x2 x3 x5 x6 w = some z) : Ev l G (jrm d_Search_markEyes 0 0) y_Search_markEyes (none, (jRx kk), z) 0 0 0 0 102 [some (.ref 90), some (.ref 3), some (.int x2), some (.int x3), none, some (.int x5), some (.int x6), none] [] (jRx kk) w := by
  rw [f_Search_markEyes_j102] at h
  refine ev_seg (o := 4) (nL := 8) (q := 107) (xs := [(.iconst 1, 1, 0, 0, .int 1), (.goto 4, 3, 0, 0, .null)]) (L' := [some (.ref 90), some (.ref 3), some (.int x2), some (.int x3), none, some (.int x5), some (.int x6), none]) (st' := [.int 1]) (w' := w) (g := []) (K := []) (by decide +kernel) rfl rfl rfl rfl jk0 ?_
  refine ev_mask [true, true, true, true, false, true, true, false] ?_
  exact t_Search_markEyes_j107 hG hk hk26 h
def f_Search_markEyes_h26 : Nat → Int32 → Int32 → jW → Option jW
  | 0, _, _, _ => none
  | n + 1, x2, x3, w =>
  Option.bind (f_Rows_count 36 w) fun q1 =>
  if x3 < q1.1 then
    Option.bind (f_Rows_at 36 x3 0 q1.2) fun q2 =>
    Option.bind (f_Rows_at 36 x3 1 q2.2) fun q3 =>
    Option.bind (f_Rows_at 6 q2.1 3 q3.2) fun q4 =>
    if q4.1 = 1 then
      f_Search_markEyes_j102 (f_Search_markEyes_h26 n) x2 x3 q3.1 (((q2.1 * 30) + q3.1) - (q3.2.1 3 0)) q4.2
    else
      Option.bind (f_State_hasSpot 34 q2.1 q3.1 q4.2) fun q12 =>
      if q12.1 = 0 then
        f_Search_markEyes_j107 (f_Search_markEyes_h26 n) x2 x3 q3.1 (((q2.1 * 30) + q3.1) - (q3.2.1 3 0)) 0 q12.2
      else
        f_Search_markEyes_j102 (f_Search_markEyes_h26 n) x2 x3 q3.1 (((q2.1 * 30) + q3.1) - (q3.2.1 3 0)) q12.2
  else
    some q1.2
set_option maxRecDepth 20000 in
theorem t_Search_markEyes_h26 {l : Launch} {G : jG} (hG : jX G) {kk : Nat} (hk : 93 ≤ kk) : ∀ (n : Nat) (x2 : Int32) (x3 : Int32) (w : jW) (z : jW), f_Search_markEyes_h26 n x2 x3 w = some z → Ev l G (jrm d_Search_markEyes 0 0) y_Search_markEyes (none, (jRx kk), z) 0 0 0 0 26 [some (.ref 90), some (.ref 3), some (.int x2), some (.int x3), none, none, none, none] [] (jRx kk) w := by
  intro n
  induction n with
  | zero => intro x2 x3 w z h; simp only [f_Search_markEyes_h26] at h; cases h
  | succ n ih =>
    intro x2 x3 w z h
    rw [f_Search_markEyes_h26] at h
    refine ev_seg (o := 4) (nL := 8) (q := 31) (xs := [(.iload_n 3, 1, 3, 0, .null), (.aload_n 1, 1, 1, 0, .null), (.getfield 90, 3, 6, 18, .ref 3)]) (L' := [some (.ref 90), some (.ref 3), some (.int x2), some (.int x3), none, none, none, none]) (st' := [.ref 36, .int x3]) (w' := w) (g := []) (K := [(36, 3), (3, 6)]) (by decide +kernel) rfl rfl rfl rfl (jk1 (kz_36 hk) (jk1 (kz_3 hk) jk0)) ?_
    obtain ⟨q1, hq1, h⟩ := jbe h
    refine ev_callV (ci := 3) (a := 36) (y2 := y_Rows_count) (o := 4) (idx := 45) (d2 := d_Rows_count) (n := 0) (mc2 := 0) (ms2 := 0) (As := []) (st := [.int x3]) (res2 := (some (.int q1.1), (jRx kk), q1.2)) (by decide +kernel) rfl lk_4_45 mo_Rows_count mv_Rows_count ⟨Nat.le_of_ble_eq_true rfl, Nat.le_of_ble_eq_true rfl⟩ rfl rfl (kz_36 hk) (by decide) rfl (Nat.le_of_ble_eq_true rfl) ⟨Nat.le_refl _, Nat.le_refl _⟩ hG (e_Rows_count hG hk (kz_36 hk) hq1) ?_
    refine ev_icmp_ge (off := 129) (tgt := 163) (by decide +kernel) (by decide) (fun c15 => ?_) (fun c15 => ?_)
    · replace h := jneg c15 h
      cases h
      exact ev_vret (by decide +kernel) rfl rfl rfl rfl
    · replace h := jpos c15 h
      refine ev_seg (o := 4) (nL := 8) (q := 43) (xs := [(.aload_n 1, 1, 1, 0, .null), (.getfield 90, 3, 6, 18, .ref 3), (.iload_n 3, 1, 3, 0, .null), (.iconst 0, 1, 0, 0, .int 0)]) (L' := [some (.ref 90), some (.ref 3), some (.int x2), some (.int x3), none, none, none, none]) (st' := [.int 0, .int x3, .ref 36]) (w' := q1.2) (g := []) (K := [(36, 3), (3, 6)]) (by decide +kernel) rfl rfl rfl rfl (jk1 (kz_36 hk) (jk1 (kz_3 hk) jk0)) ?_
      obtain ⟨q2, hq2, h⟩ := jbe h
      refine ev_callV (ci := 3) (a := 36) (y2 := y_Rows_at) (o := 4) (idx := 54) (d2 := d_Rows_at) (n := 2) (mc2 := 0) (ms2 := 0) (As := [.int x3, .int 0]) (st := []) (res2 := (some (.int q2.1), (jRx kk), q2.2)) (by decide +kernel) rfl lk_4_54 mo_Rows_at mv_Rows_at ⟨Nat.le_of_ble_eq_true rfl, Nat.le_of_ble_eq_true rfl⟩ rfl rfl (kz_36 hk) (by decide) rfl (Nat.le_of_ble_eq_true rfl) ⟨Nat.le_refl _, Nat.le_refl _⟩ hG (e_Rows_at hG hk (kz_36 hk) hq2) ?_
      refine ev_seg (o := 4) (nL := 8) (q := 54) (xs := [(.istore 4, 2, 4, 0, .null), (.aload_n 1, 1, 1, 0, .null), (.getfield 90, 3, 6, 18, .ref 3), (.iload_n 3, 1, 3, 0, .null), (.iconst 1, 1, 0, 0, .int 1)]) (L' := [some (.ref 90), some (.ref 3), some (.int x2), some (.int x3), some (.int q2.1), none, none, none]) (st' := [.int 1, .int x3, .ref 36]) (w' := q2.2) (g := []) (K := [(36, 3), (3, 6)]) (by decide +kernel) rfl rfl rfl rfl (jk1 (kz_36 hk) (jk1 (kz_3 hk) jk0)) ?_
      obtain ⟨q3, hq3, h⟩ := jbe h
      refine ev_callV (ci := 3) (a := 36) (y2 := y_Rows_at) (o := 4) (idx := 54) (d2 := d_Rows_at) (n := 2) (mc2 := 0) (ms2 := 0) (As := [.int x3, .int 1]) (st := []) (res2 := (some (.int q3.1), (jRx kk), q3.2)) (by decide +kernel) rfl lk_4_54 mo_Rows_at mv_Rows_at ⟨Nat.le_of_ble_eq_true rfl, Nat.le_of_ble_eq_true rfl⟩ rfl rfl (kz_36 hk) (by decide) rfl (Nat.le_of_ble_eq_true rfl) ⟨Nat.le_refl _, Nat.le_refl _⟩ hG (e_Rows_at hG hk (kz_36 hk) hq3) ?_
      refine ev_seg (o := 4) (nL := 8) (q := 81) (xs := [(.istore 5, 2, 5, 0, .null), (.iload 4, 2, 4, 0, .null), (.bipush 30, 2, 0, 0, .int 30), (.imul, 1, 0, 0, .null), (.iload 5, 2, 5, 0, .null), (.iadd, 1, 0, 0, .null), (.aload_n 1, 1, 1, 0, .null), (.getfield 22, 3, 6, 0, .int 0), (.isub, 1, 0, 0, .null), (.istore 6, 2, 6, 0, .null), (.aload_n 1, 1, 1, 0, .null), (.getfield 61, 3, 6, 6, .ref 3), (.iload 4, 2, 4, 0, .null), (.iconst 3, 1, 0, 0, .int 3)]) (L' := [some (.ref 90), some (.ref 3), some (.int x2), some (.int x3), some (.int q2.1), some (.int q3.1), some (.int (((q2.1 * 30) + q3.1) - (q3.2.1 3 0))), none]) (st' := [.int 3, .int q2.1, .ref 6]) (w' := q3.2) (g := []) (K := [(6, 3), (3, 6), (3, 6)]) (by decide +kernel) rfl rfl rfl rfl (jk1 (kz_6 hk) (jk1 (kz_3 hk) (jk1 (kz_3 hk) jk0))) ?_
      obtain ⟨q4, hq4, h⟩ := jbe h
      refine ev_callV (ci := 3) (a := 6) (y2 := y_Rows_at) (o := 4) (idx := 54) (d2 := d_Rows_at) (n := 2) (mc2 := 0) (ms2 := 0) (As := [.int q2.1, .int 3]) (st := []) (res2 := (some (.int q4.1), (jRx kk), q4.2)) (by decide +kernel) rfl lk_4_54 mo_Rows_at mv_Rows_at ⟨Nat.le_of_ble_eq_true rfl, Nat.le_of_ble_eq_true rfl⟩ rfl rfl (kz_6 hk) (by decide) rfl (Nat.le_of_ble_eq_true rfl) ⟨Nat.le_refl _, Nat.le_refl _⟩ hG (e_Rows_at hG hk (kz_6 hk) hq4) ?_
      refine ev_seg (o := 4) (nL := 8) (q := 85) (xs := [(.iconst 1, 1, 0, 0, .int 1)]) (L' := [some (.ref 90), some (.ref 3), some (.int x2), some (.int x3), some (.int q2.1), some (.int q3.1), some (.int (((q2.1 * 30) + q3.1) - (q3.2.1 3 0))), none]) (st' := [.int 1, .int q4.1]) (w' := q4.2) (g := []) (K := []) (by decide +kernel) rfl rfl rfl rfl jk0 ?_
      refine ev_icmp_eq (off := 17) (tgt := 102) (by decide +kernel) (by decide) (fun c14 => ?_) (fun c14 => ?_)
      · replace h := jpos c14 h
        refine ev_mask [true, true, true, true, false, true, true, false] ?_
        exact t_Search_markEyes_j102 hG hk ih h
      · replace h := jneg c14 h
        refine ev_seg (o := 4) (nL := 8) (q := 96) (xs := [(.aload_n 1, 1, 1, 0, .null), (.getfield 93, 3, 6, 17, .ref 3), (.iload 4, 2, 4, 0, .null), (.iload 5, 2, 5, 0, .null)]) (L' := [some (.ref 90), some (.ref 3), some (.int x2), some (.int x3), some (.int q2.1), some (.int q3.1), some (.int (((q2.1 * 30) + q3.1) - (q3.2.1 3 0))), none]) (st' := [.int q3.1, .int q2.1, .ref 34]) (w' := q4.2) (g := []) (K := [(34, 3), (3, 6)]) (by decide +kernel) rfl rfl rfl rfl (jk1 (kz_34 hk) (jk1 (kz_3 hk) jk0)) ?_
        obtain ⟨q12, hq12, h⟩ := jbe h
        refine ev_callS (y2 := y_State_hasSpot) (o := 4) (idx := 96) (d2 := d_State_hasSpot) (n := 3) (mc2 := 0) (ms2 := 0) (As := [.ref 34, .int q2.1, .int q3.1]) (st := []) (res2 := (some (.int q12.1), (jRx kk), q12.2)) (by decide +kernel) rfl lk_4_96 mo_State_hasSpot ms_State_hasSpot ⟨Nat.le_of_ble_eq_true rfl, Nat.le_of_ble_eq_true rfl⟩ rfl rfl (Nat.le_of_ble_eq_true rfl) ⟨Nat.le_refl _, Nat.le_refl _⟩ hG (e_State_hasSpot hG hk (kz_34 hk) hq12) ?_
        refine ev_if_eq (off := 7) (tgt := 106) (by decide +kernel) (by decide) (fun c13 => ?_) (fun c13 => ?_)
        · replace h := jpos c13 h
          refine ev_seg (o := 4) (nL := 8) (q := 107) (xs := [(.iconst 0, 1, 0, 0, .int 0)]) (L' := [some (.ref 90), some (.ref 3), some (.int x2), some (.int x3), some (.int q2.1), some (.int q3.1), some (.int (((q2.1 * 30) + q3.1) - (q3.2.1 3 0))), none]) (st' := [.int 0]) (w' := q12.2) (g := []) (K := []) (by decide +kernel) rfl rfl rfl rfl jk0 ?_
          refine ev_mask [true, true, true, true, false, true, true, false] ?_
          exact t_Search_markEyes_j107 hG hk ih h
        · replace h := jneg c13 h
          refine ev_mask [true, true, true, true, false, true, true, false] ?_
          exact t_Search_markEyes_j102 hG hk ih h
def f_Search_markEyes_h2 : Nat → Int32 → Int32 → jW → Option jW
  | 0, _, _, _ => none
  | n + 1, x2, x3, w =>
  if x3 < (Int32.ofNat 300) then
    if jal [jbo 0, jin x3 300] = true then
    jlw ((jup w.1 92 (Int32.toNatClampNeg x3) 0), w.2) fun w17 =>
    (f_Search_markEyes_h2 n) x2 (x3 + 1) w17
    else none
  else
    f_Search_markEyes_h26 jfu x2 0 w
set_option maxRecDepth 20000 in
theorem t_Search_markEyes_h2 {l : Launch} {G : jG} (hG : jX G) {kk : Nat} (hk : 93 ≤ kk) : ∀ (n : Nat) (x2 : Int32) (x3 : Int32) (w : jW) (z : jW), f_Search_markEyes_h2 n x2 x3 w = some z → Ev l G (jrm d_Search_markEyes 0 0) y_Search_markEyes (none, (jRx kk), z) 0 0 0 0 2 [some (.ref 90), some (.ref 3), some (.int x2), some (.int x3), none, none, none, none] [] (jRx kk) w := by
  intro n
  induction n with
  | zero => intro x2 x3 w z h; simp only [f_Search_markEyes_h2] at h; cases h
  | succ n ih =>
    intro x2 x3 w z h
    rw [f_Search_markEyes_h2] at h
    refine ev_seg (o := 4) (nL := 8) (q := 8) (xs := [(.iload_n 3, 1, 3, 0, .null), (.aload_n 0, 1, 0, 0, .null), (.getfield 15, 3, 4, 1, .ref 21), (.arraylength, 1, 21, 0, .null)]) (L' := [some (.ref 90), some (.ref 3), some (.int x2), some (.int x3), none, none, none, none]) (st' := [.int (Int32.ofNat 300), .int x3]) (w' := w) (g := []) (K := [(92, 21), (92, 21), (90, 4)]) (by decide +kernel) rfl rfl rfl rfl (jk1 (kz_92 hk) (jk1 (kz_92 hk) (jk1 (kz_90 hk) jk0))) ?_
    refine ev_icmp_ge (off := 16) (tgt := 24) (by decide +kernel) (by decide) (fun c18 => ?_) (fun c18 => ?_)
    · replace h := jneg c18 h
      refine ev_seg (o := 4) (nL := 8) (q := 26) (xs := [(.iconst 0, 1, 0, 0, .int 0), (.istore_n 3, 1, 3, 0, .null)]) (L' := [some (.ref 90), some (.ref 3), some (.int x2), some (.int 0), none, none, none, none]) (st' := []) (w' := w) (g := []) (K := []) (by decide +kernel) rfl rfl rfl rfl jk0 ?_
      refine ev_mask [true, true, true, true, false, false, false, false] ?_
      exact t_Search_markEyes_h26 hG hk jfu _ _ _ _ h
    · replace h := jpos c18 h
      obtain ⟨hg16, h⟩ := jgd h
      refine ev_seg (o := 4) (nL := 8) (q := 18) (xs := [(.aload_n 0, 1, 0, 0, .null), (.getfield 15, 3, 4, 1, .ref 21), (.iload_n 3, 1, 3, 0, .null), (.iconst 0, 1, 0, 0, .int 0), (.bastore, 1, 0, 0, .null)]) (L' := [some (.ref 90), some (.ref 3), some (.int x2), some (.int x3), none, none, none, none]) (st' := []) (w' := ((jup w.1 92 (Int32.toNatClampNeg x3) 0), w.2)) (g := [jbo 0, jin x3 300]) (K := [(92, 21), (92, 21), (90, 4)]) (by decide +kernel) rfl rfl rfl hg16 (jk1 (kz_92 hk) (jk1 (kz_92 hk) (jk1 (kz_90 hk) jk0))) ?_
      refine jlw_c (P := fun w17 => Ev l G (jrm d_Search_markEyes 0 0) y_Search_markEyes (none, (jRx kk), z) 0 0 0 0 18 [some (.ref 90), some (.ref 3), some (.int x2), some (.int x3), none, none, none, none] [] (jRx kk) w17) h fun w17 h => ?_
      refine ev_seg (o := 4) (nL := 8) (q := 2) (xs := [(.iinc 3 1, 3, 3, 0, .int 1), (.goto (-19), 3, 0, 0, .null)]) (L' := [some (.ref 90), some (.ref 3), some (.int x2), some (.int (x3 + 1)), none, none, none, none]) (st' := []) (w' := w17) (g := []) (K := []) (by decide +kernel) rfl rfl rfl rfl jk0 ?_
      refine ev_mask [true, true, true, true, false, false, false, false] ?_
      exact ih _ _ _ _ h
def f_Search_markEyes (x2 : Int32) (w : jW) : Option jW :=
  f_Search_markEyes_h2 jfu x2 0 w
set_option maxRecDepth 20000 in
theorem e_Search_markEyes {l : Launch} {G : jG} (hG : jX G) {kk : Nat} (hk : 93 ≤ kk) {x2 : Int32} {w : jW} {z : jW} (h : f_Search_markEyes x2 w = some z) : Ct l G y_Search_markEyes d_Search_markEyes 0 0 [.ref 90, .ref 3, .int x2] (jRx kk) w (none, (jRx kk), z) := by
  rw [f_Search_markEyes] at h
  refine Ct.of (L := [some (.ref 90), some (.ref 3), some (.int x2), none, none, none, none, none]) (by decide) (Nat.le_of_ble_eq_true rfl) rfl ?_
  refine ev_seg (o := 4) (nL := 8) (q := 2) (xs := [(.iconst 0, 1, 0, 0, .int 0), (.istore_n 3, 1, 3, 0, .null)]) (L' := [some (.ref 90), some (.ref 3), some (.int x2), some (.int 0), none, none, none, none]) (st' := []) (w' := w) (g := []) (K := []) (by decide +kernel) rfl rfl rfl rfl jk0 ?_
  refine ev_mask [true, true, true, true, false, false, false, false] ?_
  exact t_Search_markEyes_h2 hG hk jfu _ _ _ _ h
def f_Search_isClosed (x1 : Int32) (w : jW) : Option (Int32 × jW) :=
  if x1 < 0 then
    some (1, w)
  else
    if x1 < (Int32.ofNat 10) then
      if jal [jin x1 10] = true then
      if (w.1 91 (Int32.toNatClampNeg x1)) = 0 then
        some (0, w)
      else
        some (1, w)
      else none
    else
      some (1, w)
set_option maxRecDepth 20000 in
theorem e_Search_isClosed {l : Launch} {G : jG} (hG : jX G) {kk : Nat} (hk : 93 ≤ kk) {x1 : Int32} {w : jW} {z : (Int32 × jW)} (h : f_Search_isClosed x1 w = some z) : Ct l G y_Search_isClosed d_Search_isClosed 0 0 [.ref 90, .int x1] (jRx kk) w (some (.int z.1), (jRx kk), z.2) := by
  rw [f_Search_isClosed] at h
  refine Ct.of (L := [some (.ref 90), some (.int x1)]) (by decide) (Nat.le_of_ble_eq_true rfl) rfl ?_
  refine ev_seg (o := 4) (nL := 2) (q := 1) (xs := [(.iload_n 1, 1, 1, 0, .null)]) (L' := [some (.ref 90), some (.int x1)]) (st' := [.int x1]) (w' := w) (g := []) (K := []) (by decide +kernel) rfl rfl rfl rfl jk0 ?_
  refine ev_if_lt (off := 21) (tgt := 22) (by decide +kernel) (by decide) (fun c4 => ?_) (fun c4 => ?_)
  · replace h := jpos c4 h
    refine ev_seg (o := 4) (nL := 2) (q := 27) (xs := [(.iconst 1, 1, 0, 0, .int 1), (.goto 4, 3, 0, 0, .null)]) (L' := [some (.ref 90), some (.int x1)]) (st' := [.int 1]) (w' := w) (g := []) (K := []) (by decide +kernel) rfl rfl rfl rfl jk0 ?_
    cases h
    exact ev_zret (by decide +kernel) rfl rfl rfl rfl rfl
  · replace h := jneg c4 h
    refine ev_seg (o := 4) (nL := 2) (q := 10) (xs := [(.iload_n 1, 1, 1, 0, .null), (.aload_n 0, 1, 0, 0, .null), (.getfield 9, 3, 4, 0, .ref 21), (.arraylength, 1, 21, 0, .null)]) (L' := [some (.ref 90), some (.int x1)]) (st' := [.int (Int32.ofNat 10), .int x1]) (w' := w) (g := []) (K := [(91, 21), (91, 21), (90, 4)]) (by decide +kernel) rfl rfl rfl rfl (jk1 (kz_91 hk) (jk1 (kz_91 hk) (jk1 (kz_90 hk) jk0))) ?_
    refine ev_icmp_ge (off := 12) (tgt := 22) (by decide +kernel) (by decide) (fun c3 => ?_) (fun c3 => ?_)
    · replace h := jneg c3 h
      refine ev_seg (o := 4) (nL := 2) (q := 27) (xs := [(.iconst 1, 1, 0, 0, .int 1), (.goto 4, 3, 0, 0, .null)]) (L' := [some (.ref 90), some (.int x1)]) (st' := [.int 1]) (w' := w) (g := []) (K := []) (by decide +kernel) rfl rfl rfl rfl jk0 ?_
      cases h
      exact ev_zret (by decide +kernel) rfl rfl rfl rfl rfl
    · replace h := jpos c3 h
      obtain ⟨hg1, h⟩ := jgd h
      refine ev_seg (o := 4) (nL := 2) (q := 19) (xs := [(.aload_n 0, 1, 0, 0, .null), (.getfield 9, 3, 4, 0, .ref 21), (.iload_n 1, 1, 1, 0, .null), (.baload, 1, 0, 0, .null)]) (L' := [some (.ref 90), some (.int x1)]) (st' := [.int (w.1 91 (Int32.toNatClampNeg x1))]) (w' := w) (g := [jin x1 10]) (K := [(91, 21), (91, 21), (90, 4)]) (by decide +kernel) rfl rfl rfl hg1 (jk1 (kz_91 hk) (jk1 (kz_91 hk) (jk1 (kz_90 hk) jk0))) ?_
      refine ev_if_eq (off := 7) (tgt := 26) (by decide +kernel) (by decide) (fun c2 => ?_) (fun c2 => ?_)
      · replace h := jpos c2 h
        refine ev_seg (o := 4) (nL := 2) (q := 27) (xs := [(.iconst 0, 1, 0, 0, .int 0)]) (L' := [some (.ref 90), some (.int x1)]) (st' := [.int 0]) (w' := w) (g := []) (K := []) (by decide +kernel) rfl rfl rfl rfl jk0 ?_
        cases h
        exact ev_zret (by decide +kernel) rfl rfl rfl rfl rfl
      · replace h := jneg c2 h
        refine ev_seg (o := 4) (nL := 2) (q := 27) (xs := [(.iconst 1, 1, 0, 0, .int 1), (.goto 4, 3, 0, 0, .null)]) (L' := [some (.ref 90), some (.int x1)]) (st' := [.int 1]) (w' := w) (g := []) (K := []) (by decide +kernel) rfl rfl rfl rfl jk0 ?_
        cases h
        exact ev_zret (by decide +kernel) rfl rfl rfl rfl rfl
def f_Search_isEyed (x1 : Int32) (x2 : Int32) (w : jW) : Option (Int32 × jW) :=
  if ((x1 * 30) + x2) < 0 then
    some (0, w)
  else
    if ((x1 * 30) + x2) < (Int32.ofNat 300) then
      if jal [jin ((x1 * 30) + x2) 300] = true then
      if (w.1 92 (Int32.toNatClampNeg ((x1 * 30) + x2))) = 0 then
        some (0, w)
      else
        some (1, w)
      else none
    else
      some (0, w)
set_option maxRecDepth 20000 in
theorem e_Search_isEyed {l : Launch} {G : jG} (hG : jX G) {kk : Nat} (hk : 93 ≤ kk) {x1 : Int32} {x2 : Int32} {w : jW} {z : (Int32 × jW)} (h : f_Search_isEyed x1 x2 w = some z) : Ct l G y_Search_isEyed d_Search_isEyed 0 0 [.ref 90, .int x1, .int x2] (jRx kk) w (some (.int z.1), (jRx kk), z.2) := by
  rw [f_Search_isEyed] at h
  refine Ct.of (L := [some (.ref 90), some (.int x1), some (.int x2), none]) (by decide) (Nat.le_of_ble_eq_true rfl) rfl ?_
  refine ev_seg (o := 4) (nL := 4) (q := 8) (xs := [(.iload_n 1, 1, 1, 0, .null), (.bipush 30, 2, 0, 0, .int 30), (.imul, 1, 0, 0, .null), (.iload_n 2, 1, 2, 0, .null), (.iadd, 1, 0, 0, .null), (.istore_n 3, 1, 3, 0, .null), (.iload_n 3, 1, 3, 0, .null)]) (L' := [some (.ref 90), some (.int x1), some (.int x2), some (.int ((x1 * 30) + x2))]) (st' := [.int ((x1 * 30) + x2)]) (w' := w) (g := []) (K := []) (by decide +kernel) rfl rfl rfl rfl jk0 ?_
  refine ev_if_lt (off := 25) (tgt := 33) (by decide +kernel) (by decide) (fun c4 => ?_) (fun c4 => ?_)
  · replace h := jpos c4 h
    refine ev_seg (o := 4) (nL := 4) (q := 34) (xs := [(.iconst 0, 1, 0, 0, .int 0)]) (L' := [some (.ref 90), some (.int x1), some (.int x2), some (.int ((x1 * 30) + x2))]) (st' := [.int 0]) (w' := w) (g := []) (K := []) (by decide +kernel) rfl rfl rfl rfl jk0 ?_
    cases h
    exact ev_zret (by decide +kernel) rfl rfl rfl rfl rfl
  · replace h := jneg c4 h
    refine ev_seg (o := 4) (nL := 4) (q := 17) (xs := [(.iload_n 3, 1, 3, 0, .null), (.aload_n 0, 1, 0, 0, .null), (.getfield 15, 3, 4, 1, .ref 21), (.arraylength, 1, 21, 0, .null)]) (L' := [some (.ref 90), some (.int x1), some (.int x2), some (.int ((x1 * 30) + x2))]) (st' := [.int (Int32.ofNat 300), .int ((x1 * 30) + x2)]) (w' := w) (g := []) (K := [(92, 21), (92, 21), (90, 4)]) (by decide +kernel) rfl rfl rfl rfl (jk1 (kz_92 hk) (jk1 (kz_92 hk) (jk1 (kz_90 hk) jk0))) ?_
    refine ev_icmp_ge (off := 16) (tgt := 33) (by decide +kernel) (by decide) (fun c3 => ?_) (fun c3 => ?_)
    · replace h := jneg c3 h
      refine ev_seg (o := 4) (nL := 4) (q := 34) (xs := [(.iconst 0, 1, 0, 0, .int 0)]) (L' := [some (.ref 90), some (.int x1), some (.int x2), some (.int ((x1 * 30) + x2))]) (st' := [.int 0]) (w' := w) (g := []) (K := []) (by decide +kernel) rfl rfl rfl rfl jk0 ?_
      cases h
      exact ev_zret (by decide +kernel) rfl rfl rfl rfl rfl
    · replace h := jpos c3 h
      obtain ⟨hg1, h⟩ := jgd h
      refine ev_seg (o := 4) (nL := 4) (q := 26) (xs := [(.aload_n 0, 1, 0, 0, .null), (.getfield 15, 3, 4, 1, .ref 21), (.iload_n 3, 1, 3, 0, .null), (.baload, 1, 0, 0, .null)]) (L' := [some (.ref 90), some (.int x1), some (.int x2), some (.int ((x1 * 30) + x2))]) (st' := [.int (w.1 92 (Int32.toNatClampNeg ((x1 * 30) + x2)))]) (w' := w) (g := [jin ((x1 * 30) + x2) 300]) (K := [(92, 21), (92, 21), (90, 4)]) (by decide +kernel) rfl rfl rfl hg1 (jk1 (kz_92 hk) (jk1 (kz_92 hk) (jk1 (kz_90 hk) jk0))) ?_
      refine ev_if_eq (off := 7) (tgt := 33) (by decide +kernel) (by decide) (fun c2 => ?_) (fun c2 => ?_)
      · replace h := jpos c2 h
        refine ev_seg (o := 4) (nL := 4) (q := 34) (xs := [(.iconst 0, 1, 0, 0, .int 0)]) (L' := [some (.ref 90), some (.int x1), some (.int x2), some (.int ((x1 * 30) + x2))]) (st' := [.int 0]) (w' := w) (g := []) (K := []) (by decide +kernel) rfl rfl rfl rfl jk0 ?_
        cases h
        exact ev_zret (by decide +kernel) rfl rfl rfl rfl rfl
      · replace h := jneg c2 h
        refine ev_seg (o := 4) (nL := 4) (q := 34) (xs := [(.iconst 1, 1, 0, 0, .int 1), (.goto 4, 3, 0, 0, .null)]) (L' := [some (.ref 90), some (.int x1), some (.int x2), some (.int ((x1 * 30) + x2))]) (st' := [.int 1]) (w' := w) (g := []) (K := []) (by decide +kernel) rfl rfl rfl rfl jk0 ?_
        cases h
        exact ev_zret (by decide +kernel) rfl rfl rfl rfl rfl
def f_Search_findDays_j59 (k26 : Int32 → Int32 → Int32 → Int32 → Int32 → Int32 → Int32 → jW → Option jW) (x2 : Int32) (x3 : Int32) (x4 : Int32) (x5 : Int32) (x6 : Int32) (x7 : Int32) (x8 : Int32) (w : jW) : Option jW :=
  if (w.1 90 2) = x6 then
    jlw ((jup w.1 90 3 x2), w.2) fun w3 =>
    jlw ((jup w3.1 90 4 x4), w3.2) fun w4 =>
    jlw ((jup w4.1 90 5 ((w4.1 3 0) + x8)), w4.2) fun w5 =>
    jlw ((jup w5.1 90 2 ((w5.1 90 2) + 1)), w5.2) fun w6 =>
    k26 x2 x3 x4 x5 x6 x7 (x8 + 1) w6
  else
    jlw ((jup w.1 90 2 ((w.1 90 2) + 1)), w.2) fun w2 =>
    k26 x2 x3 x4 x5 x6 x7 (x8 + 1) w2
set_option maxRecDepth 20000 in
theorem t_Search_findDays_j59 {l : Launch} {G : jG} (hG : jX G) {kk : Nat} (hk : 93 ≤ kk) {k26 : Int32 → Int32 → Int32 → Int32 → Int32 → Int32 → Int32 → jW → Option jW} (hk26 : ∀ (x2 : Int32) (x3 : Int32) (x4 : Int32) (x5 : Int32) (x6 : Int32) (x7 : Int32) (x8 : Int32) (w : jW) (z : jW), k26 x2 x3 x4 x5 x6 x7 x8 w = some z → Ev l G (jrm d_Search_findDays 0 0) y_Search_findDays (none, (jRx kk), z) 0 0 0 0 26 [some (.ref 90), some (.ref 3), some (.int x2), some (.int x3), some (.int x4), some (.int x5), some (.int x6), some (.int x7), some (.int x8)] [] (jRx kk) w) {x2 : Int32} {x3 : Int32} {x4 : Int32} {x5 : Int32} {x6 : Int32} {x7 : Int32} {x8 : Int32} {w : jW} {z : jW} (h : f_Search_findDays_j59 k26 x2 x3 x4 x5 x6 x7 x8 w = some z) : Ev l G (jrm d_Search_findDays 0 0) y_Search_findDays (none, (jRx kk), z) 0 0 0 0 59 [some (.ref 90), some (.ref 3), some (.int x2), some (.int x3), some (.int x4), some (.int x5), some (.int x6), some (.int x7), some (.int x8)] [] (jRx kk) w := by
  rw [f_Search_findDays_j59] at h
  refine ev_seg (o := 4) (nL := 9) (q := 65) (xs := [(.aload_n 0, 1, 0, 0, .null), (.getfield 18, 3, 4, 2, .int 0), (.iload 6, 2, 6, 0, .null)]) (L' := [some (.ref 90), some (.ref 3), some (.int x2), some (.int x3), some (.int x4), some (.int x5), some (.int x6), some (.int x7), some (.int x8)]) (st' := [.int x6, .int (w.1 90 2)]) (w' := w) (g := []) (K := [(90, 4)]) (by decide +kernel) rfl rfl rfl rfl (jk1 (kz_90 hk) jk0) ?_
  refine ev_icmp_ne (off := 25) (tgt := 90) (by decide +kernel) (by decide) (fun c7 => ?_) (fun c7 => ?_)
  · replace h := jneg c7 h
    refine ev_seg (o := 4) (nL := 9) (q := 100) (xs := [(.aload_n 0, 1, 0, 0, .null), (.dup, 1, 0, 0, .null), (.getfield 18, 3, 4, 2, .int 0), (.iconst 1, 1, 0, 0, .int 1), (.iadd, 1, 0, 0, .null), (.putfield 18, 3, 4, 2, .int 0)]) (L' := [some (.ref 90), some (.ref 3), some (.int x2), some (.int x3), some (.int x4), some (.int x5), some (.int x6), some (.int x7), some (.int x8)]) (st' := []) (w' := ((jup w.1 90 2 ((w.1 90 2) + 1)), w.2)) (g := []) (K := [(90, 4), (90, 4)]) (by decide +kernel) rfl rfl rfl rfl (jk1 (kz_90 hk) (jk1 (kz_90 hk) jk0)) ?_
    refine jlw_c (P := fun w2 => Ev l G (jrm d_Search_findDays 0 0) y_Search_findDays (none, (jRx kk), z) 0 0 0 0 100 [some (.ref 90), some (.ref 3), some (.int x2), some (.int x3), some (.int x4), some (.int x5), some (.int x6), some (.int x7), some (.int x8)] [] (jRx kk) w2) h fun w2 h => ?_
    refine ev_seg (o := 4) (nL := 9) (q := 26) (xs := [(.iinc 8 1, 3, 8, 0, .int 1), (.goto (-77), 3, 0, 0, .null)]) (L' := [some (.ref 90), some (.ref 3), some (.int x2), some (.int x3), some (.int x4), some (.int x5), some (.int x6), some (.int x7), some (.int (x8 + 1))]) (st' := []) (w' := w2) (g := []) (K := []) (by decide +kernel) rfl rfl rfl rfl jk0 ?_
    refine ev_mask [true, true, true, true, true, true, true, true, true] ?_
    exact hk26 _ _ _ _ _ _ _ _ _ h
  · replace h := jpos c7 h
    refine ev_seg (o := 4) (nL := 9) (q := 73) (xs := [(.aload_n 0, 1, 0, 0, .null), (.iload_n 2, 1, 2, 0, .null), (.putfield 78, 3, 4, 3, .int 0)]) (L' := [some (.ref 90), some (.ref 3), some (.int x2), some (.int x3), some (.int x4), some (.int x5), some (.int x6), some (.int x7), some (.int x8)]) (st' := []) (w' := ((jup w.1 90 3 x2), w.2)) (g := []) (K := [(90, 4)]) (by decide +kernel) rfl rfl rfl rfl (jk1 (kz_90 hk) jk0) ?_
    refine jlw_c (P := fun w3 => Ev l G (jrm d_Search_findDays 0 0) y_Search_findDays (none, (jRx kk), z) 0 0 0 0 73 [some (.ref 90), some (.ref 3), some (.int x2), some (.int x3), some (.int x4), some (.int x5), some (.int x6), some (.int x7), some (.int x8)] [] (jRx kk) w3) h fun w3 h => ?_
    refine ev_seg (o := 4) (nL := 9) (q := 79) (xs := [(.aload_n 0, 1, 0, 0, .null), (.iload 4, 2, 4, 0, .null), (.putfield 81, 3, 4, 4, .int 0)]) (L' := [some (.ref 90), some (.ref 3), some (.int x2), some (.int x3), some (.int x4), some (.int x5), some (.int x6), some (.int x7), some (.int x8)]) (st' := []) (w' := ((jup w3.1 90 4 x4), w3.2)) (g := []) (K := [(90, 4)]) (by decide +kernel) rfl rfl rfl rfl (jk1 (kz_90 hk) jk0) ?_
    refine jlw_c (P := fun w4 => Ev l G (jrm d_Search_findDays 0 0) y_Search_findDays (none, (jRx kk), z) 0 0 0 0 79 [some (.ref 90), some (.ref 3), some (.int x2), some (.int x3), some (.int x4), some (.int x5), some (.int x6), some (.int x7), some (.int x8)] [] (jRx kk) w4) h fun w4 h => ?_
    refine ev_seg (o := 4) (nL := 9) (q := 90) (xs := [(.aload_n 0, 1, 0, 0, .null), (.aload_n 1, 1, 1, 0, .null), (.getfield 22, 3, 6, 0, .int 0), (.iload 8, 2, 8, 0, .null), (.iadd, 1, 0, 0, .null), (.putfield 84, 3, 4, 5, .int 0)]) (L' := [some (.ref 90), some (.ref 3), some (.int x2), some (.int x3), some (.int x4), some (.int x5), some (.int x6), some (.int x7), some (.int x8)]) (st' := []) (w' := ((jup w4.1 90 5 ((w4.1 3 0) + x8)), w4.2)) (g := []) (K := [(90, 4), (3, 6)]) (by decide +kernel) rfl rfl rfl rfl (jk1 (kz_90 hk) (jk1 (kz_3 hk) jk0)) ?_
    refine jlw_c (P := fun w5 => Ev l G (jrm d_Search_findDays 0 0) y_Search_findDays (none, (jRx kk), z) 0 0 0 0 90 [some (.ref 90), some (.ref 3), some (.int x2), some (.int x3), some (.int x4), some (.int x5), some (.int x6), some (.int x7), some (.int x8)] [] (jRx kk) w5) h fun w5 h => ?_
    refine ev_seg (o := 4) (nL := 9) (q := 100) (xs := [(.aload_n 0, 1, 0, 0, .null), (.dup, 1, 0, 0, .null), (.getfield 18, 3, 4, 2, .int 0), (.iconst 1, 1, 0, 0, .int 1), (.iadd, 1, 0, 0, .null), (.putfield 18, 3, 4, 2, .int 0)]) (L' := [some (.ref 90), some (.ref 3), some (.int x2), some (.int x3), some (.int x4), some (.int x5), some (.int x6), some (.int x7), some (.int x8)]) (st' := []) (w' := ((jup w5.1 90 2 ((w5.1 90 2) + 1)), w5.2)) (g := []) (K := [(90, 4), (90, 4)]) (by decide +kernel) rfl rfl rfl rfl (jk1 (kz_90 hk) (jk1 (kz_90 hk) jk0)) ?_
    refine jlw_c (P := fun w6 => Ev l G (jrm d_Search_findDays 0 0) y_Search_findDays (none, (jRx kk), z) 0 0 0 0 100 [some (.ref 90), some (.ref 3), some (.int x2), some (.int x3), some (.int x4), some (.int x5), some (.int x6), some (.int x7), some (.int x8)] [] (jRx kk) w6) h fun w6 h => ?_
    refine ev_seg (o := 4) (nL := 9) (q := 26) (xs := [(.iinc 8 1, 3, 8, 0, .int 1), (.goto (-77), 3, 0, 0, .null)]) (L' := [some (.ref 90), some (.ref 3), some (.int x2), some (.int x3), some (.int x4), some (.int x5), some (.int x6), some (.int x7), some (.int (x8 + 1))]) (st' := []) (w' := w6) (g := []) (K := []) (by decide +kernel) rfl rfl rfl rfl jk0 ?_
    refine ev_mask [true, true, true, true, true, true, true, true, true] ?_
    exact hk26 _ _ _ _ _ _ _ _ _ h
def f_Search_findDays_h26 : Nat → Int32 → Int32 → Int32 → Int32 → Int32 → Int32 → Int32 → jW → Option jW
  | 0, _, _, _, _, _, _, _, _ => none
  | n + 1, x2, x3, x4, x5, x6, x7, x8, w =>
  if x8 < x5 then
    if x7 = 0 then
      f_Search_findDays_j59 (f_Search_findDays_h26 n) x2 x3 x4 x5 x6 x7 x8 w
    else
      Option.bind (f_Search_isEyed x3 x8 w) fun q8 =>
      if q8.1 = 0 then
        Option.bind (f_Search_isEyed x4 x8 q8.2) fun q9 =>
        if q9.1 = 0 then
          f_Search_findDays_j59 (f_Search_findDays_h26 n) x2 x3 x4 x5 x6 x7 x8 q9.2
        else
          (f_Search_findDays_h26 n) x2 x3 x4 x5 x6 x7 (x8 + 1) q9.2
      else
        (f_Search_findDays_h26 n) x2 x3 x4 x5 x6 x7 (x8 + 1) q8.2
  else
    some w
set_option maxRecDepth 20000 in
theorem t_Search_findDays_h26 {l : Launch} {G : jG} (hG : jX G) {kk : Nat} (hk : 93 ≤ kk) : ∀ (n : Nat) (x2 : Int32) (x3 : Int32) (x4 : Int32) (x5 : Int32) (x6 : Int32) (x7 : Int32) (x8 : Int32) (w : jW) (z : jW), f_Search_findDays_h26 n x2 x3 x4 x5 x6 x7 x8 w = some z → Ev l G (jrm d_Search_findDays 0 0) y_Search_findDays (none, (jRx kk), z) 0 0 0 0 26 [some (.ref 90), some (.ref 3), some (.int x2), some (.int x3), some (.int x4), some (.int x5), some (.int x6), some (.int x7), some (.int x8)] [] (jRx kk) w := by
  intro n
  induction n with
  | zero => intro x2 x3 x4 x5 x6 x7 x8 w z h; simp only [f_Search_findDays_h26] at h; cases h
  | succ n ih =>
    intro x2 x3 x4 x5 x6 x7 x8 w z h
    rw [f_Search_findDays_h26] at h
    refine ev_seg (o := 4) (nL := 9) (q := 30) (xs := [(.iload 8, 2, 8, 0, .null), (.iload 5, 2, 5, 0, .null)]) (L' := [some (.ref 90), some (.ref 3), some (.int x2), some (.int x3), some (.int x4), some (.int x5), some (.int x6), some (.int x7), some (.int x8)]) (st' := [.int x5, .int x8]) (w' := w) (g := []) (K := []) (by decide +kernel) rfl rfl rfl rfl jk0 ?_
    refine ev_icmp_ge (off := 76) (tgt := 106) (by decide +kernel) (by decide) (fun c13 => ?_) (fun c13 => ?_)
    · replace h := jneg c13 h
      cases h
      exact ev_vret (by decide +kernel) rfl rfl rfl rfl
    · replace h := jpos c13 h
      refine ev_seg (o := 4) (nL := 9) (q := 35) (xs := [(.iload 7, 2, 7, 0, .null)]) (L' := [some (.ref 90), some (.ref 3), some (.int x2), some (.int x3), some (.int x4), some (.int x5), some (.int x6), some (.int x7), some (.int x8)]) (st' := [.int x7]) (w' := w) (g := []) (K := []) (by decide +kernel) rfl rfl rfl rfl jk0 ?_
      refine ev_if_eq (off := 24) (tgt := 59) (by decide +kernel) (by decide) (fun c12 => ?_) (fun c12 => ?_)
      · replace h := jpos c12 h
        refine ev_mask [true, true, true, true, true, true, true, true, true] ?_
        exact t_Search_findDays_j59 hG hk ih h
      · replace h := jneg c12 h
        refine ev_seg (o := 4) (nL := 9) (q := 42) (xs := [(.aload_n 0, 1, 0, 0, .null), (.iload_n 3, 1, 3, 0, .null), (.iload 8, 2, 8, 0, .null)]) (L' := [some (.ref 90), some (.ref 3), some (.int x2), some (.int x3), some (.int x4), some (.int x5), some (.int x6), some (.int x7), some (.int x8)]) (st' := [.int x8, .int x3, .ref 90]) (w' := w) (g := []) (K := []) (by decide +kernel) rfl rfl rfl rfl jk0 ?_
        obtain ⟨q8, hq8, h⟩ := jbe h
        refine ev_callV (ci := 4) (a := 90) (y2 := y_Search_isEyed) (o := 4) (idx := 74) (d2 := d_Search_isEyed) (n := 2) (mc2 := 0) (ms2 := 0) (As := [.int x3, .int x8]) (st := []) (res2 := (some (.int q8.1), (jRx kk), q8.2)) (by decide +kernel) rfl lk_4_74 mo_Search_isEyed mv_Search_isEyed ⟨Nat.le_of_ble_eq_true rfl, Nat.le_of_ble_eq_true rfl⟩ rfl rfl (kz_90 hk) (by decide) rfl (Nat.le_of_ble_eq_true rfl) ⟨Nat.le_refl _, Nat.le_refl _⟩ hG (e_Search_isEyed hG hk hq8) ?_
        refine ev_if_ne (off := 55) (tgt := 100) (by decide +kernel) (by decide) (fun c11 => ?_) (fun c11 => ?_)
        · replace h := jneg c11 h
          refine ev_seg (o := 4) (nL := 9) (q := 26) (xs := [(.iinc 8 1, 3, 8, 0, .int 1), (.goto (-77), 3, 0, 0, .null)]) (L' := [some (.ref 90), some (.ref 3), some (.int x2), some (.int x3), some (.int x4), some (.int x5), some (.int x6), some (.int x7), some (.int (x8 + 1))]) (st' := []) (w' := q8.2) (g := []) (K := []) (by decide +kernel) rfl rfl rfl rfl jk0 ?_
          refine ev_mask [true, true, true, true, true, true, true, true, true] ?_
          exact ih _ _ _ _ _ _ _ _ _ h
        · replace h := jpos c11 h
          refine ev_seg (o := 4) (nL := 9) (q := 53) (xs := [(.aload_n 0, 1, 0, 0, .null), (.iload 4, 2, 4, 0, .null), (.iload 8, 2, 8, 0, .null)]) (L' := [some (.ref 90), some (.ref 3), some (.int x2), some (.int x3), some (.int x4), some (.int x5), some (.int x6), some (.int x7), some (.int x8)]) (st' := [.int x8, .int x4, .ref 90]) (w' := q8.2) (g := []) (K := []) (by decide +kernel) rfl rfl rfl rfl jk0 ?_
          obtain ⟨q9, hq9, h⟩ := jbe h
          refine ev_callV (ci := 4) (a := 90) (y2 := y_Search_isEyed) (o := 4) (idx := 74) (d2 := d_Search_isEyed) (n := 2) (mc2 := 0) (ms2 := 0) (As := [.int x4, .int x8]) (st := []) (res2 := (some (.int q9.1), (jRx kk), q9.2)) (by decide +kernel) rfl lk_4_74 mo_Search_isEyed mv_Search_isEyed ⟨Nat.le_of_ble_eq_true rfl, Nat.le_of_ble_eq_true rfl⟩ rfl rfl (kz_90 hk) (by decide) rfl (Nat.le_of_ble_eq_true rfl) ⟨Nat.le_refl _, Nat.le_refl _⟩ hG (e_Search_isEyed hG hk hq9) ?_
          refine ev_if_ne (off := 44) (tgt := 100) (by decide +kernel) (by decide) (fun c10 => ?_) (fun c10 => ?_)
          · replace h := jneg c10 h
            refine ev_seg (o := 4) (nL := 9) (q := 26) (xs := [(.iinc 8 1, 3, 8, 0, .int 1), (.goto (-77), 3, 0, 0, .null)]) (L' := [some (.ref 90), some (.ref 3), some (.int x2), some (.int x3), some (.int x4), some (.int x5), some (.int x6), some (.int x7), some (.int (x8 + 1))]) (st' := []) (w' := q9.2) (g := []) (K := []) (by decide +kernel) rfl rfl rfl rfl jk0 ?_
            refine ev_mask [true, true, true, true, true, true, true, true, true] ?_
            exact ih _ _ _ _ _ _ _ _ _ h
          · replace h := jpos c10 h
            refine ev_mask [true, true, true, true, true, true, true, true, true] ?_
            exact t_Search_findDays_j59 hG hk ih h
def f_Search_findDays_j21 (x2 : Int32) (x3 : Int32) (x4 : Int32) (x5 : Int32) (x6 : Int32) (s0 : Int32) (w : jW) : Option jW :=
  f_Search_findDays_h26 jfu x2 x3 x4 x5 x6 s0 0 w
set_option maxRecDepth 20000 in
theorem t_Search_findDays_j21 {l : Launch} {G : jG} (hG : jX G) {kk : Nat} (hk : 93 ≤ kk) {x2 : Int32} {x3 : Int32} {x4 : Int32} {x5 : Int32} {x6 : Int32} {s0 : Int32} {w : jW} {z : jW} (h : f_Search_findDays_j21 x2 x3 x4 x5 x6 s0 w = some z) : Ev l G (jrm d_Search_findDays 0 0) y_Search_findDays (none, (jRx kk), z) 0 0 0 0 21 [some (.ref 90), some (.ref 3), some (.int x2), some (.int x3), some (.int x4), some (.int x5), some (.int x6), none, none] [.int s0] (jRx kk) w := by
  rw [f_Search_findDays_j21] at h
  refine ev_seg (o := 4) (nL := 9) (q := 26) (xs := [(.istore 7, 2, 7, 0, .null), (.iconst 0, 1, 0, 0, .int 0), (.istore 8, 2, 8, 0, .null)]) (L' := [some (.ref 90), some (.ref 3), some (.int x2), some (.int x3), some (.int x4), some (.int x5), some (.int x6), some (.int s0), some (.int 0)]) (st' := []) (w' := w) (g := []) (K := []) (by decide +kernel) rfl rfl rfl rfl jk0 ?_
  refine ev_mask [true, true, true, true, true, true, true, true, true] ?_
  exact t_Search_findDays_h26 hG hk jfu _ _ _ _ _ _ _ _ _ h
def f_Search_findDays (x2 : Int32) (x3 : Int32) (x4 : Int32) (x5 : Int32) (x6 : Int32) (w : jW) : Option jW :=
  Option.bind (f_Rows_at 10 x2 1 w) fun q1 =>
  if q1.1 < (q1.2.1 3 3) then
    f_Search_findDays_j21 x2 x3 x4 x5 x6 0 q1.2
  else
    f_Search_findDays_j21 x2 x3 x4 x5 x6 1 q1.2
set_option maxRecDepth 20000 in
theorem e_Search_findDays {l : Launch} {G : jG} (hG : jX G) {kk : Nat} (hk : 93 ≤ kk) {x2 : Int32} {x3 : Int32} {x4 : Int32} {x5 : Int32} {x6 : Int32} {w : jW} {z : jW} (h : f_Search_findDays x2 x3 x4 x5 x6 w = some z) : Ct l G y_Search_findDays d_Search_findDays 0 0 [.ref 90, .ref 3, .int x2, .int x3, .int x4, .int x5, .int x6] (jRx kk) w (none, (jRx kk), z) := by
  rw [f_Search_findDays] at h
  refine Ct.of (L := [some (.ref 90), some (.ref 3), some (.int x2), some (.int x3), some (.int x4), some (.int x5), some (.int x6), none, none]) (by decide) (Nat.le_of_ble_eq_true rfl) rfl ?_
  refine ev_seg (o := 4) (nL := 9) (q := 6) (xs := [(.aload_n 1, 1, 1, 0, .null), (.getfield 41, 3, 6, 8, .ref 3), (.iload_n 2, 1, 2, 0, .null), (.iconst 1, 1, 0, 0, .int 1)]) (L' := [some (.ref 90), some (.ref 3), some (.int x2), some (.int x3), some (.int x4), some (.int x5), some (.int x6), none, none]) (st' := [.int 1, .int x2, .ref 10]) (w' := w) (g := []) (K := [(10, 3), (3, 6)]) (by decide +kernel) rfl rfl rfl rfl (jk1 (kz_10 hk) (jk1 (kz_3 hk) jk0)) ?_
  obtain ⟨q1, hq1, h⟩ := jbe h
  refine ev_callV (ci := 3) (a := 10) (y2 := y_Rows_at) (o := 4) (idx := 54) (d2 := d_Rows_at) (n := 2) (mc2 := 0) (ms2 := 0) (As := [.int x2, .int 1]) (st := []) (res2 := (some (.int q1.1), (jRx kk), q1.2)) (by decide +kernel) rfl lk_4_54 mo_Rows_at mv_Rows_at ⟨Nat.le_of_ble_eq_true rfl, Nat.le_of_ble_eq_true rfl⟩ rfl rfl (kz_10 hk) (by decide) rfl (Nat.le_of_ble_eq_true rfl) ⟨Nat.le_refl _, Nat.le_refl _⟩ hG (e_Rows_at hG hk (kz_10 hk) hq1) ?_
  refine ev_seg (o := 4) (nL := 9) (q := 13) (xs := [(.aload_n 1, 1, 1, 0, .null), (.getfield 71, 3, 6, 3, .int 0)]) (L' := [some (.ref 90), some (.ref 3), some (.int x2), some (.int x3), some (.int x4), some (.int x5), some (.int x6), none, none]) (st' := [.int (q1.2.1 3 3), .int q1.1]) (w' := q1.2) (g := []) (K := [(3, 6)]) (by decide +kernel) rfl rfl rfl rfl (jk1 (kz_3 hk) jk0) ?_
  refine ev_icmp_lt (off := 7) (tgt := 20) (by decide +kernel) (by decide) (fun c14 => ?_) (fun c14 => ?_)
  · replace h := jpos c14 h
    refine ev_seg (o := 4) (nL := 9) (q := 21) (xs := [(.iconst 0, 1, 0, 0, .int 0)]) (L' := [some (.ref 90), some (.ref 3), some (.int x2), some (.int x3), some (.int x4), some (.int x5), some (.int x6), none, none]) (st' := [.int 0]) (w' := q1.2) (g := []) (K := []) (by decide +kernel) rfl rfl rfl rfl jk0 ?_
    refine ev_mask [true, true, true, true, true, true, true, false, false] ?_
    exact t_Search_findDays_j21 hG hk h
  · replace h := jneg c14 h
    refine ev_seg (o := 4) (nL := 9) (q := 21) (xs := [(.iconst 1, 1, 0, 0, .int 1), (.goto 4, 3, 0, 0, .null)]) (L' := [some (.ref 90), some (.ref 3), some (.int x2), some (.int x3), some (.int x4), some (.int x5), some (.int x6), none, none]) (st' := [.int 1]) (w' := q1.2) (g := []) (K := []) (by decide +kernel) rfl rfl rfl rfl jk0 ?_
    refine ev_mask [true, true, true, true, true, true, true, false, false] ?_
    exact t_Search_findDays_j21 hG hk h
def f_Search_find_h84 (k34 : Int32 → Int32 → Int32 → Int32 → jW → Option (Int32 × jW)) : Nat → Int32 → Int32 → Int32 → Int32 → Int32 → Int32 → jW → Option (Int32 × jW)
  | 0, _, _, _, _, _, _, _ => none
  | n + 1, x2, x4, x5, x6, x7, x8, w =>
  Option.bind (f_Rows_count 6 w) fun q8 =>
  if x8 < q8.1 then
    Option.bind (f_Rows_at 8 x7 x8 q8.2) fun q9 =>
    if q9.1 ≤ 0 then
      (f_Search_find_h84 k34 n) x2 x4 x5 x6 x7 (x8 + 1) q9.2
    else
      Option.bind (f_Search_isClosed x8 q9.2) fun q10 =>
      if q10.1 = 0 then
        Option.bind (f_Search_findDays x6 x7 x8 x5 x4 q10.2) fun q11 =>
        (f_Search_find_h84 k34 n) x2 x4 x5 x6 x7 (x8 + 1) q11
      else
        (f_Search_find_h84 k34 n) x2 x4 x5 x6 x7 (x8 + 1) q10.2
  else
    k34 x2 x4 x5 (x6 + 1) q8.2
set_option maxRecDepth 20000 in
theorem t_Search_find_h84 {l : Launch} {G : jG} (hG : jX G) {kk : Nat} (hk : 93 ≤ kk) {k34 : Int32 → Int32 → Int32 → Int32 → jW → Option (Int32 × jW)} (hk34 : ∀ (x2 : Int32) (x4 : Int32) (x5 : Int32) (x6 : Int32) (w : jW) (z : (Int32 × jW)), k34 x2 x4 x5 x6 w = some z → Ev l G (jrm d_Search_find 0 0) y_Search_find (some (.int z.1), (jRx kk), z.2) 0 0 0 0 34 [some (.ref 90), some (.ref 3), some (.int x2), none, some (.int x4), some (.int x5), some (.int x6), none, none] [] (jRx kk) w) : ∀ (n : Nat) (x2 : Int32) (x4 : Int32) (x5 : Int32) (x6 : Int32) (x7 : Int32) (x8 : Int32) (w : jW) (z : (Int32 × jW)), f_Search_find_h84 k34 n x2 x4 x5 x6 x7 x8 w = some z → Ev l G (jrm d_Search_find 0 0) y_Search_find (some (.int z.1), (jRx kk), z.2) 0 0 0 0 84 [some (.ref 90), some (.ref 3), some (.int x2), none, some (.int x4), some (.int x5), some (.int x6), some (.int x7), some (.int x8)] [] (jRx kk) w := by
  intro n
  induction n with
  | zero => intro x2 x4 x5 x6 x7 x8 w z h; simp only [f_Search_find_h84] at h; cases h
  | succ n ih =>
    intro x2 x4 x5 x6 x7 x8 w z h
    rw [f_Search_find_h84] at h
    refine ev_seg (o := 4) (nL := 9) (q := 90) (xs := [(.iload 8, 2, 8, 0, .null), (.aload_n 1, 1, 1, 0, .null), (.getfield 61, 3, 6, 6, .ref 3)]) (L' := [some (.ref 90), some (.ref 3), some (.int x2), none, some (.int x4), some (.int x5), some (.int x6), some (.int x7), some (.int x8)]) (st' := [.ref 6, .int x8]) (w' := w) (g := []) (K := [(6, 3), (3, 6)]) (by decide +kernel) rfl rfl rfl rfl (jk1 (kz_6 hk) (jk1 (kz_3 hk) jk0)) ?_
    obtain ⟨q8, hq8, h⟩ := jbe h
    refine ev_callV (ci := 3) (a := 6) (y2 := y_Rows_count) (o := 4) (idx := 45) (d2 := d_Rows_count) (n := 0) (mc2 := 0) (ms2 := 0) (As := []) (st := [.int x8]) (res2 := (some (.int q8.1), (jRx kk), q8.2)) (by decide +kernel) rfl lk_4_45 mo_Rows_count mv_Rows_count ⟨Nat.le_of_ble_eq_true rfl, Nat.le_of_ble_eq_true rfl⟩ rfl rfl (kz_6 hk) (by decide) rfl (Nat.le_of_ble_eq_true rfl) ⟨Nat.le_refl _, Nat.le_refl _⟩ hG (e_Rows_count hG hk (kz_6 hk) hq8) ?_
    refine ev_icmp_ge (off := 47) (tgt := 140) (by decide +kernel) (by decide) (fun c14 => ?_) (fun c14 => ?_)
    · replace h := jneg c14 h
      refine ev_seg (o := 4) (nL := 9) (q := 34) (xs := [(.iinc 6 1, 3, 6, 0, .int 1), (.goto (-109), 3, 0, 0, .null)]) (L' := [some (.ref 90), some (.ref 3), some (.int x2), none, some (.int x4), some (.int x5), some (.int (x6 + 1)), some (.int x7), some (.int x8)]) (st' := []) (w' := q8.2) (g := []) (K := []) (by decide +kernel) rfl rfl rfl rfl jk0 ?_
      refine ev_mask [true, true, true, false, true, true, true, false, false] ?_
      exact hk34 _ _ _ _ _ _ h
    · replace h := jpos c14 h
      refine ev_seg (o := 4) (nL := 9) (q := 104) (xs := [(.aload_n 1, 1, 1, 0, .null), (.getfield 64, 3, 6, 7, .ref 3), (.iload 7, 2, 7, 0, .null), (.iload 8, 2, 8, 0, .null)]) (L' := [some (.ref 90), some (.ref 3), some (.int x2), none, some (.int x4), some (.int x5), some (.int x6), some (.int x7), some (.int x8)]) (st' := [.int x8, .int x7, .ref 8]) (w' := q8.2) (g := []) (K := [(8, 3), (3, 6)]) (by decide +kernel) rfl rfl rfl rfl (jk1 (kz_8 hk) (jk1 (kz_3 hk) jk0)) ?_
      obtain ⟨q9, hq9, h⟩ := jbe h
      refine ev_callV (ci := 3) (a := 8) (y2 := y_Rows_at) (o := 4) (idx := 54) (d2 := d_Rows_at) (n := 2) (mc2 := 0) (ms2 := 0) (As := [.int x7, .int x8]) (st := []) (res2 := (some (.int q9.1), (jRx kk), q9.2)) (by decide +kernel) rfl lk_4_54 mo_Rows_at mv_Rows_at ⟨Nat.le_of_ble_eq_true rfl, Nat.le_of_ble_eq_true rfl⟩ rfl rfl (kz_8 hk) (by decide) rfl (Nat.le_of_ble_eq_true rfl) ⟨Nat.le_refl _, Nat.le_refl _⟩ hG (e_Rows_at hG hk (kz_8 hk) hq9) ?_
      refine ev_if_le (off := 27) (tgt := 134) (by decide +kernel) (by decide) (fun c13 => ?_) (fun c13 => ?_)
      · replace h := jpos c13 h
        refine ev_seg (o := 4) (nL := 9) (q := 84) (xs := [(.iinc 8 1, 3, 8, 0, .int 1), (.goto (-53), 3, 0, 0, .null)]) (L' := [some (.ref 90), some (.ref 3), some (.int x2), none, some (.int x4), some (.int x5), some (.int x6), some (.int x7), some (.int (x8 + 1))]) (st' := []) (w' := q9.2) (g := []) (K := []) (by decide +kernel) rfl rfl rfl rfl jk0 ?_
        refine ev_mask [true, true, true, false, true, true, true, true, true] ?_
        exact ih _ _ _ _ _ _ _ _ h
      · replace h := jneg c13 h
        refine ev_seg (o := 4) (nL := 9) (q := 113) (xs := [(.aload_n 0, 1, 0, 0, .null), (.iload 8, 2, 8, 0, .null)]) (L' := [some (.ref 90), some (.ref 3), some (.int x2), none, some (.int x4), some (.int x5), some (.int x6), some (.int x7), some (.int x8)]) (st' := [.int x8, .ref 90]) (w' := q9.2) (g := []) (K := []) (by decide +kernel) rfl rfl rfl rfl jk0 ?_
        obtain ⟨q10, hq10, h⟩ := jbe h
        refine ev_callV (ci := 4) (a := 90) (y2 := y_Search_isClosed) (o := 4) (idx := 57) (d2 := d_Search_isClosed) (n := 1) (mc2 := 0) (ms2 := 0) (As := [.int x8]) (st := []) (res2 := (some (.int q10.1), (jRx kk), q10.2)) (by decide +kernel) rfl lk_4_57 mo_Search_isClosed mv_Search_isClosed ⟨Nat.le_of_ble_eq_true rfl, Nat.le_of_ble_eq_true rfl⟩ rfl rfl (kz_90 hk) (by decide) rfl (Nat.le_of_ble_eq_true rfl) ⟨Nat.le_refl _, Nat.le_refl _⟩ hG (e_Search_isClosed hG hk hq10) ?_
        refine ev_if_ne (off := 18) (tgt := 134) (by decide +kernel) (by decide) (fun c12 => ?_) (fun c12 => ?_)
        · replace h := jneg c12 h
          refine ev_seg (o := 4) (nL := 9) (q := 84) (xs := [(.iinc 8 1, 3, 8, 0, .int 1), (.goto (-53), 3, 0, 0, .null)]) (L' := [some (.ref 90), some (.ref 3), some (.int x2), none, some (.int x4), some (.int x5), some (.int x6), some (.int x7), some (.int (x8 + 1))]) (st' := []) (w' := q10.2) (g := []) (K := []) (by decide +kernel) rfl rfl rfl rfl jk0 ?_
          refine ev_mask [true, true, true, false, true, true, true, true, true] ?_
          exact ih _ _ _ _ _ _ _ _ h
        · replace h := jpos c12 h
          refine ev_seg (o := 4) (nL := 9) (q := 131) (xs := [(.aload_n 0, 1, 0, 0, .null), (.aload_n 1, 1, 1, 0, .null), (.iload 6, 2, 6, 0, .null), (.iload 7, 2, 7, 0, .null), (.iload 8, 2, 8, 0, .null), (.iload 5, 2, 5, 0, .null), (.iload 4, 2, 4, 0, .null)]) (L' := [some (.ref 90), some (.ref 3), some (.int x2), none, some (.int x4), some (.int x5), some (.int x6), some (.int x7), some (.int x8)]) (st' := [.int x4, .int x5, .int x8, .int x7, .int x6, .ref 3, .ref 90]) (w' := q10.2) (g := []) (K := []) (by decide +kernel) rfl rfl rfl rfl jk0 ?_
          obtain ⟨q11, hq11, h⟩ := jbe h
          refine ev_callV (ci := 4) (a := 90) (y2 := y_Search_findDays) (o := 4) (idx := 67) (d2 := d_Search_findDays) (n := 6) (mc2 := 0) (ms2 := 0) (As := [.ref 3, .int x6, .int x7, .int x8, .int x5, .int x4]) (st := []) (res2 := (none, (jRx kk), q11)) (by decide +kernel) rfl lk_4_67 mo_Search_findDays mv_Search_findDays ⟨Nat.le_of_ble_eq_true rfl, Nat.le_of_ble_eq_true rfl⟩ rfl rfl (kz_90 hk) (by decide) rfl (Nat.le_of_ble_eq_true rfl) ⟨Nat.le_refl _, Nat.le_refl _⟩ hG (e_Search_findDays hG hk hq11) ?_
          refine ev_seg (o := 4) (nL := 9) (q := 84) (xs := [(.iinc 8 1, 3, 8, 0, .int 1), (.goto (-53), 3, 0, 0, .null)]) (L' := [some (.ref 90), some (.ref 3), some (.int x2), none, some (.int x4), some (.int x5), some (.int x6), some (.int x7), some (.int (x8 + 1))]) (st' := []) (w' := q11) (g := []) (K := []) (by decide +kernel) rfl rfl rfl rfl jk0 ?_
          refine ev_mask [true, true, true, false, true, true, true, true, true] ?_
          exact ih _ _ _ _ _ _ _ _ h
def f_Search_find_h34 : Nat → Int32 → Int32 → Int32 → Int32 → jW → Option (Int32 × jW)
  | 0, _, _, _, _, _ => none
  | n + 1, x2, x4, x5, x6, w =>
  Option.bind (f_Rows_count 10 w) fun q4 =>
  if x6 < q4.1 then
    Option.bind (f_State_placeOn x6 (q4.2.1 3 0) q4.2) fun q5 =>
    Option.bind (f_Rows_at 10 x6 3 q5.2) fun q6 =>
    if q6.1 = x2 then
      Option.bind (f_Search_isClosed q5.1 q6.2) fun q7 =>
      if q7.1 = 0 then
        f_Search_find_h84 (f_Search_find_h34 n) jfu x2 x4 x5 x6 q5.1 0 q7.2
      else
        (f_Search_find_h34 n) x2 x4 x5 (x6 + 1) q7.2
    else
      (f_Search_find_h34 n) x2 x4 x5 (x6 + 1) q6.2
  else
    some ((q4.2.1 90 2), q4.2)
set_option maxRecDepth 20000 in
theorem t_Search_find_h34 {l : Launch} {G : jG} (hG : jX G) {kk : Nat} (hk : 93 ≤ kk) : ∀ (n : Nat) (x2 : Int32) (x4 : Int32) (x5 : Int32) (x6 : Int32) (w : jW) (z : (Int32 × jW)), f_Search_find_h34 n x2 x4 x5 x6 w = some z → Ev l G (jrm d_Search_find 0 0) y_Search_find (some (.int z.1), (jRx kk), z.2) 0 0 0 0 34 [some (.ref 90), some (.ref 3), some (.int x2), none, some (.int x4), some (.int x5), some (.int x6), none, none] [] (jRx kk) w := by
  intro n
  induction n with
  | zero => intro x2 x4 x5 x6 w z h; simp only [f_Search_find_h34] at h; cases h
  | succ n ih =>
    intro x2 x4 x5 x6 w z h
    rw [f_Search_find_h34] at h
    refine ev_seg (o := 4) (nL := 9) (q := 40) (xs := [(.iload 6, 2, 6, 0, .null), (.aload_n 1, 1, 1, 0, .null), (.getfield 41, 3, 6, 8, .ref 3)]) (L' := [some (.ref 90), some (.ref 3), some (.int x2), none, some (.int x4), some (.int x5), some (.int x6), none, none]) (st' := [.ref 10, .int x6]) (w' := w) (g := []) (K := [(10, 3), (3, 6)]) (by decide +kernel) rfl rfl rfl rfl (jk1 (kz_10 hk) (jk1 (kz_3 hk) jk0)) ?_
    obtain ⟨q4, hq4, h⟩ := jbe h
    refine ev_callV (ci := 3) (a := 10) (y2 := y_Rows_count) (o := 4) (idx := 45) (d2 := d_Rows_count) (n := 0) (mc2 := 0) (ms2 := 0) (As := []) (st := [.int x6]) (res2 := (some (.int q4.1), (jRx kk), q4.2)) (by decide +kernel) rfl lk_4_45 mo_Rows_count mv_Rows_count ⟨Nat.le_of_ble_eq_true rfl, Nat.le_of_ble_eq_true rfl⟩ rfl rfl (kz_10 hk) (by decide) rfl (Nat.le_of_ble_eq_true rfl) ⟨Nat.le_refl _, Nat.le_refl _⟩ hG (e_Rows_count hG hk (kz_10 hk) hq4) ?_
    refine ev_icmp_ge (off := 103) (tgt := 146) (by decide +kernel) (by decide) (fun c17 => ?_) (fun c17 => ?_)
    · replace h := jneg c17 h
      refine ev_seg (o := 4) (nL := 9) (q := 150) (xs := [(.aload_n 0, 1, 0, 0, .null), (.getfield 18, 3, 4, 2, .int 0)]) (L' := [some (.ref 90), some (.ref 3), some (.int x2), none, some (.int x4), some (.int x5), some (.int x6), none, none]) (st' := [.int (q4.2.1 90 2)]) (w' := q4.2) (g := []) (K := [(90, 4)]) (by decide +kernel) rfl rfl rfl rfl (jk1 (kz_90 hk) jk0) ?_
      cases h
      exact ev_iret (by decide +kernel) rfl rfl rfl rfl
    · replace h := jpos c17 h
      refine ev_seg (o := 4) (nL := 9) (q := 53) (xs := [(.aload_n 1, 1, 1, 0, .null), (.iload 6, 2, 6, 0, .null), (.aload_n 1, 1, 1, 0, .null), (.getfield 22, 3, 6, 0, .int 0)]) (L' := [some (.ref 90), some (.ref 3), some (.int x2), none, some (.int x4), some (.int x5), some (.int x6), none, none]) (st' := [.int (q4.2.1 3 0), .int x6, .ref 3]) (w' := q4.2) (g := []) (K := [(3, 6)]) (by decide +kernel) rfl rfl rfl rfl (jk1 (kz_3 hk) jk0) ?_
      obtain ⟨q5, hq5, h⟩ := jbe h
      refine ev_callV (ci := 6) (a := 3) (y2 := y_State_placeOn) (o := 4) (idx := 51) (d2 := d_State_placeOn) (n := 2) (mc2 := 0) (ms2 := 0) (As := [.int x6, .int (q4.2.1 3 0)]) (st := []) (res2 := (some (.int q5.1), (jRx kk), q5.2)) (by decide +kernel) rfl lk_4_51 mo_State_placeOn mv_State_placeOn ⟨Nat.le_of_ble_eq_true rfl, Nat.le_of_ble_eq_true rfl⟩ rfl rfl (kz_3 hk) (by decide) rfl (Nat.le_of_ble_eq_true rfl) ⟨Nat.le_refl _, Nat.le_refl _⟩ hG (e_State_placeOn hG hk hq5) ?_
      refine ev_seg (o := 4) (nL := 9) (q := 65) (xs := [(.istore 7, 2, 7, 0, .null), (.aload_n 1, 1, 1, 0, .null), (.getfield 41, 3, 6, 8, .ref 3), (.iload 6, 2, 6, 0, .null), (.iconst 3, 1, 0, 0, .int 3)]) (L' := [some (.ref 90), some (.ref 3), some (.int x2), none, some (.int x4), some (.int x5), some (.int x6), some (.int q5.1), none]) (st' := [.int 3, .int x6, .ref 10]) (w' := q5.2) (g := []) (K := [(10, 3), (3, 6)]) (by decide +kernel) rfl rfl rfl rfl (jk1 (kz_10 hk) (jk1 (kz_3 hk) jk0)) ?_
      obtain ⟨q6, hq6, h⟩ := jbe h
      refine ev_callV (ci := 3) (a := 10) (y2 := y_Rows_at) (o := 4) (idx := 54) (d2 := d_Rows_at) (n := 2) (mc2 := 0) (ms2 := 0) (As := [.int x6, .int 3]) (st := []) (res2 := (some (.int q6.1), (jRx kk), q6.2)) (by decide +kernel) rfl lk_4_54 mo_Rows_at mv_Rows_at ⟨Nat.le_of_ble_eq_true rfl, Nat.le_of_ble_eq_true rfl⟩ rfl rfl (kz_10 hk) (by decide) rfl (Nat.le_of_ble_eq_true rfl) ⟨Nat.le_refl _, Nat.le_refl _⟩ hG (e_Rows_at hG hk (kz_10 hk) hq6) ?_
      refine ev_seg (o := 4) (nL := 9) (q := 69) (xs := [(.iload_n 2, 1, 2, 0, .null)]) (L' := [some (.ref 90), some (.ref 3), some (.int x2), none, some (.int x4), some (.int x5), some (.int x6), some (.int q5.1), none]) (st' := [.int x2, .int q6.1]) (w' := q6.2) (g := []) (K := []) (by decide +kernel) rfl rfl rfl rfl jk0 ?_
      refine ev_icmp_ne (off := 71) (tgt := 140) (by decide +kernel) (by decide) (fun c16 => ?_) (fun c16 => ?_)
      · replace h := jneg c16 h
        refine ev_seg (o := 4) (nL := 9) (q := 34) (xs := [(.iinc 6 1, 3, 6, 0, .int 1), (.goto (-109), 3, 0, 0, .null)]) (L' := [some (.ref 90), some (.ref 3), some (.int x2), none, some (.int x4), some (.int x5), some (.int (x6 + 1)), some (.int q5.1), none]) (st' := []) (w' := q6.2) (g := []) (K := []) (by decide +kernel) rfl rfl rfl rfl jk0 ?_
        refine ev_mask [true, true, true, false, true, true, true, false, false] ?_
        exact ih _ _ _ _ _ _ h
      · replace h := jpos c16 h
        refine ev_seg (o := 4) (nL := 9) (q := 75) (xs := [(.aload_n 0, 1, 0, 0, .null), (.iload 7, 2, 7, 0, .null)]) (L' := [some (.ref 90), some (.ref 3), some (.int x2), none, some (.int x4), some (.int x5), some (.int x6), some (.int q5.1), none]) (st' := [.int q5.1, .ref 90]) (w' := q6.2) (g := []) (K := []) (by decide +kernel) rfl rfl rfl rfl jk0 ?_
        obtain ⟨q7, hq7, h⟩ := jbe h
        refine ev_callV (ci := 4) (a := 90) (y2 := y_Search_isClosed) (o := 4) (idx := 57) (d2 := d_Search_isClosed) (n := 1) (mc2 := 0) (ms2 := 0) (As := [.int q5.1]) (st := []) (res2 := (some (.int q7.1), (jRx kk), q7.2)) (by decide +kernel) rfl lk_4_57 mo_Search_isClosed mv_Search_isClosed ⟨Nat.le_of_ble_eq_true rfl, Nat.le_of_ble_eq_true rfl⟩ rfl rfl (kz_90 hk) (by decide) rfl (Nat.le_of_ble_eq_true rfl) ⟨Nat.le_refl _, Nat.le_refl _⟩ hG (e_Search_isClosed hG hk hq7) ?_
        refine ev_if_ne (off := 62) (tgt := 140) (by decide +kernel) (by decide) (fun c15 => ?_) (fun c15 => ?_)
        · replace h := jneg c15 h
          refine ev_seg (o := 4) (nL := 9) (q := 34) (xs := [(.iinc 6 1, 3, 6, 0, .int 1), (.goto (-109), 3, 0, 0, .null)]) (L' := [some (.ref 90), some (.ref 3), some (.int x2), none, some (.int x4), some (.int x5), some (.int (x6 + 1)), some (.int q5.1), none]) (st' := []) (w' := q7.2) (g := []) (K := []) (by decide +kernel) rfl rfl rfl rfl jk0 ?_
          refine ev_mask [true, true, true, false, true, true, true, false, false] ?_
          exact ih _ _ _ _ _ _ h
        · replace h := jpos c15 h
          refine ev_seg (o := 4) (nL := 9) (q := 84) (xs := [(.iconst 0, 1, 0, 0, .int 0), (.istore 8, 2, 8, 0, .null)]) (L' := [some (.ref 90), some (.ref 3), some (.int x2), none, some (.int x4), some (.int x5), some (.int x6), some (.int q5.1), some (.int 0)]) (st' := []) (w' := q7.2) (g := []) (K := []) (by decide +kernel) rfl rfl rfl rfl jk0 ?_
          refine ev_mask [true, true, true, false, true, true, true, true, true] ?_
          exact t_Search_find_h84 hG hk ih jfu _ _ _ _ _ _ _ _ h
def f_Search_find (x2 : Int32) (x3 : Int32) (x4 : Int32) (w : jW) : Option (Int32 × jW) :=
  jlw ((jup w.1 90 2 0), w.2) fun w1 =>
  Option.bind (f_Search_markClosed w1) fun q2 =>
  Option.bind (f_Search_markEyes (if (2000 - (w1.1 3 0)) < x3 then (2000 - (w1.1 3 0)) else x3) q2) fun q3 =>
  f_Search_find_h34 jfu x2 x4 (if (2000 - (w1.1 3 0)) < x3 then (2000 - (w1.1 3 0)) else x3) 0 q3
set_option maxRecDepth 20000 in
theorem e_Search_find {l : Launch} {G : jG} (hG : jX G) {kk : Nat} (hk : 93 ≤ kk) {x2 : Int32} {x3 : Int32} {x4 : Int32} {w : jW} {z : (Int32 × jW)} (h : f_Search_find x2 x3 x4 w = some z) : Ct l G y_Search_find d_Search_find 0 0 [.ref 90, .ref 3, .int x2, .int x3, .int x4] (jRx kk) w (some (.int z.1), (jRx kk), z.2) := by
  rw [f_Search_find] at h
  refine Ct.of (L := [some (.ref 90), some (.ref 3), some (.int x2), some (.int x3), some (.int x4), none, none, none, none]) (by decide) (Nat.le_of_ble_eq_true rfl) rfl ?_
  refine ev_seg (o := 4) (nL := 9) (q := 5) (xs := [(.aload_n 0, 1, 0, 0, .null), (.iconst 0, 1, 0, 0, .int 0), (.putfield 18, 3, 4, 2, .int 0)]) (L' := [some (.ref 90), some (.ref 3), some (.int x2), some (.int x3), some (.int x4), none, none, none, none]) (st' := []) (w' := ((jup w.1 90 2 0), w.2)) (g := []) (K := [(90, 4)]) (by decide +kernel) rfl rfl rfl rfl (jk1 (kz_90 hk) jk0) ?_
  refine jlw_c (P := fun w1 => Ev l G (jrm d_Search_find 0 0) y_Search_find (some (.int z.1), (jRx kk), z.2) 0 0 0 0 5 [some (.ref 90), some (.ref 3), some (.int x2), some (.int x3), some (.int x4), none, none, none, none] [] (jRx kk) w1) h fun w1 h => ?_
  refine ev_seg (o := 4) (nL := 9) (q := 14) (xs := [(.iload_n 3, 1, 3, 0, .null), (.sipush 2000, 3, 0, 0, .int 2000), (.aload_n 1, 1, 1, 0, .null), (.getfield 22, 3, 6, 0, .int 0), (.isub, 1, 0, 0, .null)]) (L' := [some (.ref 90), some (.ref 3), some (.int x2), some (.int x3), some (.int x4), none, none, none, none]) (st' := [.int (2000 - (w1.1 3 0)), .int x3]) (w' := w1) (g := []) (K := [(3, 6)]) (by decide +kernel) rfl rfl rfl rfl (jk1 (kz_3 hk) jk0) ?_
  refine ev_min (o := 4) (idx := 27) (by decide +kernel) rfl lk_4_27 ms_min hMath mc_min (Nat.le_of_ble_eq_true rfl) (Nat.le_of_ble_eq_true rfl) (Nat.le_of_ble_eq_true rfl) (Nat.le_of_ble_eq_true rfl) ?_
  refine ev_seg (o := 4) (nL := 9) (q := 21) (xs := [(.istore 5, 2, 5, 0, .null), (.aload_n 0, 1, 0, 0, .null), (.aload_n 1, 1, 1, 0, .null)]) (L' := [some (.ref 90), some (.ref 3), some (.int x2), some (.int x3), some (.int x4), some (.int (if (2000 - (w1.1 3 0)) < x3 then (2000 - (w1.1 3 0)) else x3)), none, none, none]) (st' := [.ref 3, .ref 90]) (w' := w1) (g := []) (K := []) (by decide +kernel) rfl rfl rfl rfl jk0 ?_
  obtain ⟨q2, hq2, h⟩ := jbe h
  refine ev_callV (ci := 4) (a := 90) (y2 := y_Search_markClosed) (o := 4) (idx := 33) (d2 := d_Search_markClosed) (n := 1) (mc2 := 0) (ms2 := 0) (As := [.ref 3]) (st := []) (res2 := (none, (jRx kk), q2)) (by decide +kernel) rfl lk_4_33 mo_Search_markClosed mv_Search_markClosed ⟨Nat.le_of_ble_eq_true rfl, Nat.le_of_ble_eq_true rfl⟩ rfl rfl (kz_90 hk) (by decide) rfl (Nat.le_of_ble_eq_true rfl) ⟨Nat.le_refl _, Nat.le_refl _⟩ hG (e_Search_markClosed hG hk hq2) ?_
  refine ev_seg (o := 4) (nL := 9) (q := 28) (xs := [(.aload_n 0, 1, 0, 0, .null), (.aload_n 1, 1, 1, 0, .null), (.iload 5, 2, 5, 0, .null)]) (L' := [some (.ref 90), some (.ref 3), some (.int x2), some (.int x3), some (.int x4), some (.int (if (2000 - (w1.1 3 0)) < x3 then (2000 - (w1.1 3 0)) else x3)), none, none, none]) (st' := [.int (if (2000 - (w1.1 3 0)) < x3 then (2000 - (w1.1 3 0)) else x3), .ref 3, .ref 90]) (w' := q2) (g := []) (K := []) (by decide +kernel) rfl rfl rfl rfl jk0 ?_
  obtain ⟨q3, hq3, h⟩ := jbe h
  refine ev_callV (ci := 4) (a := 90) (y2 := y_Search_markEyes) (o := 4) (idx := 37) (d2 := d_Search_markEyes) (n := 2) (mc2 := 0) (ms2 := 0) (As := [.ref 3, .int (if (2000 - (w1.1 3 0)) < x3 then (2000 - (w1.1 3 0)) else x3)]) (st := []) (res2 := (none, (jRx kk), q3)) (by decide +kernel) rfl lk_4_37 mo_Search_markEyes mv_Search_markEyes ⟨Nat.le_of_ble_eq_true rfl, Nat.le_of_ble_eq_true rfl⟩ rfl rfl (kz_90 hk) (by decide) rfl (Nat.le_of_ble_eq_true rfl) ⟨Nat.le_refl _, Nat.le_refl _⟩ hG (e_Search_markEyes hG hk hq3) ?_
  refine ev_seg (o := 4) (nL := 9) (q := 34) (xs := [(.iconst 0, 1, 0, 0, .int 0), (.istore 6, 2, 6, 0, .null)]) (L' := [some (.ref 90), some (.ref 3), some (.int x2), some (.int x3), some (.int x4), some (.int (if (2000 - (w1.1 3 0)) < x3 then (2000 - (w1.1 3 0)) else x3)), some (.int 0), none, none]) (st' := []) (w' := q3) (g := []) (K := []) (by decide +kernel) rfl rfl rfl rfl jk0 ?_
  refine ev_mask [true, true, true, false, true, true, true, false, false] ?_
  exact t_Search_find_h34 hG hk jfu _ _ _ _ _ _ h
def f_Count_unseen (x1 : Int32) (x2 : Int32) (w : jW) : Option (Int32 × jW) :=
  Option.bind (f_State_isLand x1 w) fun q1 =>
  if q1.1 = 0 then
    some ((-1), q1.2)
  else
    if x2 < 1 then
      some ((-1), q1.2)
    else
      if x2 ≤ 30 then
        Option.bind (f_Search_find x1 x2 (-1) q1.2) fun q2 =>
        some (q2.1, q2.2)
      else
        some ((-1), q1.2)
set_option maxRecDepth 20000 in
theorem e_Count_unseen {l : Launch} {G : jG} (hG : jX G) {kk : Nat} (hk : 93 ≤ kk) {x1 : Int32} {x2 : Int32} {w : jW} {z : (Int32 × jW)} (h : f_Count_unseen x1 x2 w = some z) : Ct l G y_Count_unseen d_Count_unseen 0 0 [.ref 2, .int x1, .int x2] (jRx kk) w (some (.int z.1), (jRx kk), z.2) := by
  rw [f_Count_unseen] at h
  refine Ct.of (L := [some (.ref 2), some (.int x1), some (.int x2)]) (by decide) (Nat.le_of_ble_eq_true rfl) rfl ?_
  refine ev_seg (o := 9) (nL := 3) (q := 1) (xs := [(.iload_n 1, 1, 1, 0, .null)]) (L' := [some (.ref 2), some (.int x1), some (.int x2)]) (st' := [.int x1]) (w' := w) (g := []) (K := []) (by decide +kernel) rfl rfl rfl rfl jk0 ?_
  obtain ⟨q1, hq1, h⟩ := jbe h
  refine ev_callS (y2 := y_State_isLand) (o := 9) (idx := 54) (d2 := d_State_isLand) (n := 1) (mc2 := 0) (ms2 := 0) (As := [.int x1]) (st := []) (res2 := (some (.int q1.1), (jRx kk), q1.2)) (by decide +kernel) rfl lk_9_54 mo_State_isLand ms_State_isLand ⟨Nat.le_of_ble_eq_true rfl, Nat.le_of_ble_eq_true rfl⟩ rfl rfl (Nat.le_of_ble_eq_true rfl) ⟨Nat.le_refl _, Nat.le_refl _⟩ hG (e_State_isLand hG hk hq1) ?_
  refine ev_if_eq (off := 14) (tgt := 18) (by decide +kernel) (by decide) (fun c5 => ?_) (fun c5 => ?_)
  · replace h := jpos c5 h
    refine ev_seg (o := 9) (nL := 3) (q := 19) (xs := [(.iconst (-1), 1, 0, 0, .int (-1))]) (L' := [some (.ref 2), some (.int x1), some (.int x2)]) (st' := [.int (-1)]) (w' := q1.2) (g := []) (K := []) (by decide +kernel) rfl rfl rfl rfl jk0 ?_
    cases h
    exact ev_iret (by decide +kernel) rfl rfl rfl rfl
  · replace h := jneg c5 h
    refine ev_seg (o := 9) (nL := 3) (q := 9) (xs := [(.iload_n 2, 1, 2, 0, .null), (.iconst 1, 1, 0, 0, .int 1)]) (L' := [some (.ref 2), some (.int x1), some (.int x2)]) (st' := [.int 1, .int x2]) (w' := q1.2) (g := []) (K := []) (by decide +kernel) rfl rfl rfl rfl jk0 ?_
    refine ev_icmp_lt (off := 9) (tgt := 18) (by decide +kernel) (by decide) (fun c4 => ?_) (fun c4 => ?_)
    · replace h := jpos c4 h
      refine ev_seg (o := 9) (nL := 3) (q := 19) (xs := [(.iconst (-1), 1, 0, 0, .int (-1))]) (L' := [some (.ref 2), some (.int x1), some (.int x2)]) (st' := [.int (-1)]) (w' := q1.2) (g := []) (K := []) (by decide +kernel) rfl rfl rfl rfl jk0 ?_
      cases h
      exact ev_iret (by decide +kernel) rfl rfl rfl rfl
    · replace h := jneg c4 h
      refine ev_seg (o := 9) (nL := 3) (q := 15) (xs := [(.iload_n 2, 1, 2, 0, .null), (.bipush 30, 2, 0, 0, .int 30)]) (L' := [some (.ref 2), some (.int x1), some (.int x2)]) (st' := [.int 30, .int x2]) (w' := q1.2) (g := []) (K := []) (by decide +kernel) rfl rfl rfl rfl jk0 ?_
      refine ev_icmp_le (off := 5) (tgt := 20) (by decide +kernel) (by decide) (fun c3 => ?_) (fun c3 => ?_)
      · replace h := jpos c3 h
        refine ev_seg (o := 9) (nL := 3) (q := 31) (xs := [(.aload_n 0, 1, 0, 0, .null), (.getfield 50, 3, 9, 6, .ref 4), (.aload_n 0, 1, 0, 0, .null), (.getfield 12, 3, 9, 0, .ref 6), (.iload_n 1, 1, 1, 0, .null), (.iload_n 2, 1, 2, 0, .null), (.iconst (-1), 1, 0, 0, .int (-1))]) (L' := [some (.ref 2), some (.int x1), some (.int x2)]) (st' := [.int (-1), .int x2, .int x1, .ref 3, .ref 90]) (w' := q1.2) (g := []) (K := [(3, 6), (2, 9), (90, 4), (2, 9)]) (by decide +kernel) rfl rfl rfl rfl (jk1 (kz_3 hk) (jk1 (kz_2 hk) (jk1 (kz_90 hk) (jk1 (kz_2 hk) jk0)))) ?_
        obtain ⟨q2, hq2, h⟩ := jbe h
        refine ev_callV (ci := 4) (a := 90) (y2 := y_Search_find) (o := 9) (idx := 297) (d2 := d_Search_find) (n := 4) (mc2 := 0) (ms2 := 0) (As := [.ref 3, .int x1, .int x2, .int (-1)]) (st := []) (res2 := (some (.int q2.1), (jRx kk), q2.2)) (by decide +kernel) rfl lk_9_297 mo_Search_find mv_Search_find ⟨Nat.le_of_ble_eq_true rfl, Nat.le_of_ble_eq_true rfl⟩ rfl rfl (kz_90 hk) (by decide) rfl (Nat.le_of_ble_eq_true rfl) ⟨Nat.le_refl _, Nat.le_refl _⟩ hG (e_Search_find hG hk hq2) ?_
        cases h
        exact ev_iret (by decide +kernel) rfl rfl rfl rfl
      · replace h := jneg c3 h
        refine ev_seg (o := 9) (nL := 3) (q := 19) (xs := [(.iconst (-1), 1, 0, 0, .int (-1))]) (L' := [some (.ref 2), some (.int x1), some (.int x2)]) (st' := [.int (-1)]) (w' := q1.2) (g := []) (K := []) (by decide +kernel) rfl rfl rfl rfl jk0 ?_
        cases h
        exact ev_iret (by decide +kernel) rfl rfl rfl rfl
def f_Count_trick (x1 : Int32) (x2 : Int32) (x3 : Int32) (x4 : Int32) (w : jW) : Option (Int32 × jW) :=
  Option.bind (f_State_isLand x1 w) fun q1 =>
  if q1.1 = 0 then
    some ((-1), q1.2)
  else
    if x2 < 1 then
      some ((-1), q1.2)
    else
      if x2 ≤ 30 then
        if x3 < 0 then
          some ((-1), q1.2)
        else
          Option.bind (f_Search_find x1 x2 x3 q1.2) fun q2 =>
          if q2.1 ≤ x3 then
            some ((-1), q2.2)
          else
            if x4 = 0 then
              some ((q2.2.1 90 3), q2.2)
            else
            if x4 = 1 then
              some ((q2.2.1 90 4), q2.2)
            else
            if x4 = 2 then
              some ((q2.2.1 90 5), q2.2)
            else
              some ((-1), q2.2)
      else
        some ((-1), q1.2)
set_option maxRecDepth 20000 in
theorem e_Count_trick {l : Launch} {G : jG} (hG : jX G) {kk : Nat} (hk : 93 ≤ kk) {x1 : Int32} {x2 : Int32} {x3 : Int32} {x4 : Int32} {w : jW} {z : (Int32 × jW)} (h : f_Count_trick x1 x2 x3 x4 w = some z) : Ct l G y_Count_trick d_Count_trick 0 0 [.ref 2, .int x1, .int x2, .int x3, .int x4] (jRx kk) w (some (.int z.1), (jRx kk), z.2) := by
  rw [f_Count_trick] at h
  refine Ct.of (L := [some (.ref 2), some (.int x1), some (.int x2), some (.int x3), some (.int x4)]) (by decide) (Nat.le_of_ble_eq_true rfl) rfl ?_
  refine ev_seg (o := 9) (nL := 5) (q := 1) (xs := [(.iload_n 1, 1, 1, 0, .null)]) (L' := [some (.ref 2), some (.int x1), some (.int x2), some (.int x3), some (.int x4)]) (st' := [.int x1]) (w' := w) (g := []) (K := []) (by decide +kernel) rfl rfl rfl rfl jk0 ?_
  obtain ⟨q1, hq1, h⟩ := jbe h
  refine ev_callS (y2 := y_State_isLand) (o := 9) (idx := 54) (d2 := d_State_isLand) (n := 1) (mc2 := 0) (ms2 := 0) (As := [.int x1]) (st := []) (res2 := (some (.int q1.1), (jRx kk), q1.2)) (by decide +kernel) rfl lk_9_54 mo_State_isLand ms_State_isLand ⟨Nat.le_of_ble_eq_true rfl, Nat.le_of_ble_eq_true rfl⟩ rfl rfl (Nat.le_of_ble_eq_true rfl) ⟨Nat.le_refl _, Nat.le_refl _⟩ hG (e_State_isLand hG hk hq1) ?_
  refine ev_if_eq (off := 18) (tgt := 22) (by decide +kernel) (by decide) (fun c10 => ?_) (fun c10 => ?_)
  · replace h := jpos c10 h
    refine ev_seg (o := 9) (nL := 5) (q := 23) (xs := [(.iconst (-1), 1, 0, 0, .int (-1))]) (L' := [some (.ref 2), some (.int x1), some (.int x2), some (.int x3), some (.int x4)]) (st' := [.int (-1)]) (w' := q1.2) (g := []) (K := []) (by decide +kernel) rfl rfl rfl rfl jk0 ?_
    cases h
    exact ev_iret (by decide +kernel) rfl rfl rfl rfl
  · replace h := jneg c10 h
    refine ev_seg (o := 9) (nL := 5) (q := 9) (xs := [(.iload_n 2, 1, 2, 0, .null), (.iconst 1, 1, 0, 0, .int 1)]) (L' := [some (.ref 2), some (.int x1), some (.int x2), some (.int x3), some (.int x4)]) (st' := [.int 1, .int x2]) (w' := q1.2) (g := []) (K := []) (by decide +kernel) rfl rfl rfl rfl jk0 ?_
    refine ev_icmp_lt (off := 13) (tgt := 22) (by decide +kernel) (by decide) (fun c9 => ?_) (fun c9 => ?_)
    · replace h := jpos c9 h
      refine ev_seg (o := 9) (nL := 5) (q := 23) (xs := [(.iconst (-1), 1, 0, 0, .int (-1))]) (L' := [some (.ref 2), some (.int x1), some (.int x2), some (.int x3), some (.int x4)]) (st' := [.int (-1)]) (w' := q1.2) (g := []) (K := []) (by decide +kernel) rfl rfl rfl rfl jk0 ?_
      cases h
      exact ev_iret (by decide +kernel) rfl rfl rfl rfl
    · replace h := jneg c9 h
      refine ev_seg (o := 9) (nL := 5) (q := 15) (xs := [(.iload_n 2, 1, 2, 0, .null), (.bipush 30, 2, 0, 0, .int 30)]) (L' := [some (.ref 2), some (.int x1), some (.int x2), some (.int x3), some (.int x4)]) (st' := [.int 30, .int x2]) (w' := q1.2) (g := []) (K := []) (by decide +kernel) rfl rfl rfl rfl jk0 ?_
      refine ev_icmp_gt (off := 7) (tgt := 22) (by decide +kernel) (by decide) (fun c8 => ?_) (fun c8 => ?_)
      · replace h := jneg c8 h
        refine ev_seg (o := 9) (nL := 5) (q := 23) (xs := [(.iconst (-1), 1, 0, 0, .int (-1))]) (L' := [some (.ref 2), some (.int x1), some (.int x2), some (.int x3), some (.int x4)]) (st' := [.int (-1)]) (w' := q1.2) (g := []) (K := []) (by decide +kernel) rfl rfl rfl rfl jk0 ?_
        cases h
        exact ev_iret (by decide +kernel) rfl rfl rfl rfl
      · replace h := jpos c8 h
        refine ev_seg (o := 9) (nL := 5) (q := 19) (xs := [(.iload_n 3, 1, 3, 0, .null)]) (L' := [some (.ref 2), some (.int x1), some (.int x2), some (.int x3), some (.int x4)]) (st' := [.int x3]) (w' := q1.2) (g := []) (K := []) (by decide +kernel) rfl rfl rfl rfl jk0 ?_
        refine ev_if_ge (off := 5) (tgt := 24) (by decide +kernel) (by decide) (fun c7 => ?_) (fun c7 => ?_)
        · replace h := jneg c7 h
          refine ev_seg (o := 9) (nL := 5) (q := 35) (xs := [(.aload_n 0, 1, 0, 0, .null), (.getfield 50, 3, 9, 6, .ref 4), (.aload_n 0, 1, 0, 0, .null), (.getfield 12, 3, 9, 0, .ref 6), (.iload_n 1, 1, 1, 0, .null), (.iload_n 2, 1, 2, 0, .null), (.iload_n 3, 1, 3, 0, .null)]) (L' := [some (.ref 2), some (.int x1), some (.int x2), some (.int x3), some (.int x4)]) (st' := [.int x3, .int x2, .int x1, .ref 3, .ref 90]) (w' := q1.2) (g := []) (K := [(3, 6), (2, 9), (90, 4), (2, 9)]) (by decide +kernel) rfl rfl rfl rfl (jk1 (kz_3 hk) (jk1 (kz_2 hk) (jk1 (kz_90 hk) (jk1 (kz_2 hk) jk0)))) ?_
          obtain ⟨q2, hq2, h⟩ := jbe h
          refine ev_callV (ci := 4) (a := 90) (y2 := y_Search_find) (o := 9) (idx := 297) (d2 := d_Search_find) (n := 4) (mc2 := 0) (ms2 := 0) (As := [.ref 3, .int x1, .int x2, .int x3]) (st := []) (res2 := (some (.int q2.1), (jRx kk), q2.2)) (by decide +kernel) rfl lk_9_297 mo_Search_find mv_Search_find ⟨Nat.le_of_ble_eq_true rfl, Nat.le_of_ble_eq_true rfl⟩ rfl rfl (kz_90 hk) (by decide) rfl (Nat.le_of_ble_eq_true rfl) ⟨Nat.le_refl _, Nat.le_refl _⟩ hG (e_Search_find hG hk hq2) ?_
          refine ev_seg (o := 9) (nL := 5) (q := 39) (xs := [(.iload_n 3, 1, 3, 0, .null)]) (L' := [some (.ref 2), some (.int x1), some (.int x2), some (.int x3), some (.int x4)]) (st' := [.int x3, .int q2.1]) (w' := q2.2) (g := []) (K := []) (by decide +kernel) rfl rfl rfl rfl jk0 ?_
          refine ev_icmp_gt (off := 5) (tgt := 44) (by decide +kernel) (by decide) (fun c6 => ?_) (fun c6 => ?_)
          · replace h := jneg c6 h
            refine ev_seg (o := 9) (nL := 5) (q := 46) (xs := [(.iload 4, 2, 4, 0, .null)]) (L' := [some (.ref 2), some (.int x1), some (.int x2), some (.int x3), some (.int x4)]) (st' := [.int x4]) (w' := q2.2) (g := []) (K := []) (by decide +kernel) rfl rfl rfl rfl jk0 ?_
            by_cases c3 : x4 = 0
            · replace h := jpos c3 h
              refine ev_tableIn (dflt := 50) (lo := 0) (hi := 2) (offs := #[26, 34, 42]) (len := 26) (off := 26) (tgt := 72) (by decide +kernel) (by rw [c3]; decide) (by rw [c3]; decide) (by rw [c3]; decide) (by decide) ?_
              refine ev_seg (o := 9) (nL := 5) (q := 79) (xs := [(.aload_n 0, 1, 0, 0, .null), (.getfield 50, 3, 9, 6, .ref 4), (.getfield 301, 3, 4, 3, .int 0)]) (L' := [some (.ref 2), some (.int x1), some (.int x2), some (.int x3), some (.int x4)]) (st' := [.int (q2.2.1 90 3)]) (w' := q2.2) (g := []) (K := [(90, 4), (90, 4), (2, 9)]) (by decide +kernel) rfl rfl rfl rfl (jk1 (kz_90 hk) (jk1 (kz_90 hk) (jk1 (kz_2 hk) jk0))) ?_
              cases h
              exact ev_iret (by decide +kernel) rfl rfl rfl rfl
            · replace h := jneg c3 h
              by_cases c4 : x4 = 1
              · replace h := jpos c4 h
                refine ev_tableIn (dflt := 50) (lo := 0) (hi := 2) (offs := #[26, 34, 42]) (len := 26) (off := 34) (tgt := 80) (by decide +kernel) (by rw [c4]; decide) (by rw [c4]; decide) (by rw [c4]; decide) (by decide) ?_
                refine ev_seg (o := 9) (nL := 5) (q := 87) (xs := [(.aload_n 0, 1, 0, 0, .null), (.getfield 50, 3, 9, 6, .ref 4), (.getfield 304, 3, 4, 4, .int 0)]) (L' := [some (.ref 2), some (.int x1), some (.int x2), some (.int x3), some (.int x4)]) (st' := [.int (q2.2.1 90 4)]) (w' := q2.2) (g := []) (K := [(90, 4), (90, 4), (2, 9)]) (by decide +kernel) rfl rfl rfl rfl (jk1 (kz_90 hk) (jk1 (kz_90 hk) (jk1 (kz_2 hk) jk0))) ?_
                cases h
                exact ev_iret (by decide +kernel) rfl rfl rfl rfl
              · replace h := jneg c4 h
                by_cases c5 : x4 = 2
                · replace h := jpos c5 h
                  refine ev_tableIn (dflt := 50) (lo := 0) (hi := 2) (offs := #[26, 34, 42]) (len := 26) (off := 42) (tgt := 88) (by decide +kernel) (by rw [c5]; decide) (by rw [c5]; decide) (by rw [c5]; decide) (by decide) ?_
                  refine ev_seg (o := 9) (nL := 5) (q := 95) (xs := [(.aload_n 0, 1, 0, 0, .null), (.getfield 50, 3, 9, 6, .ref 4), (.getfield 307, 3, 4, 5, .int 0)]) (L' := [some (.ref 2), some (.int x1), some (.int x2), some (.int x3), some (.int x4)]) (st' := [.int (q2.2.1 90 5)]) (w' := q2.2) (g := []) (K := [(90, 4), (90, 4), (2, 9)]) (by decide +kernel) rfl rfl rfl rfl (jk1 (kz_90 hk) (jk1 (kz_90 hk) (jk1 (kz_2 hk) jk0))) ?_
                  cases h
                  exact ev_iret (by decide +kernel) rfl rfl rfl rfl
                · replace h := jneg c5 h
                  have ec3 := lv_neT (a := 0) c3 rfl
                  have ec4 := lv_neT (a := 1) c4 rfl
                  have ec5 := lv_neT (a := 2) c5 rfl
                  refine ev_tableOut (dflt := 50) (lo := 0) (hi := 2) (offs := #[26, 34, 42]) (len := 26) (tgt := 96) (by decide +kernel) (by omega) (by decide) ?_
                  refine ev_seg (o := 9) (nL := 5) (q := 97) (xs := [(.iconst (-1), 1, 0, 0, .int (-1))]) (L' := [some (.ref 2), some (.int x1), some (.int x2), some (.int x3), some (.int x4)]) (st' := [.int (-1)]) (w' := q2.2) (g := []) (K := []) (by decide +kernel) rfl rfl rfl rfl jk0 ?_
                  cases h
                  exact ev_iret (by decide +kernel) rfl rfl rfl rfl
          · replace h := jpos c6 h
            refine ev_seg (o := 9) (nL := 5) (q := 43) (xs := [(.iconst (-1), 1, 0, 0, .int (-1))]) (L' := [some (.ref 2), some (.int x1), some (.int x2), some (.int x3), some (.int x4)]) (st' := [.int (-1)]) (w' := q2.2) (g := []) (K := []) (by decide +kernel) rfl rfl rfl rfl jk0 ?_
            cases h
            exact ev_iret (by decide +kernel) rfl rfl rfl rfl
        · replace h := jpos c7 h
          refine ev_seg (o := 9) (nL := 5) (q := 23) (xs := [(.iconst (-1), 1, 0, 0, .int (-1))]) (L' := [some (.ref 2), some (.int x1), some (.int x2), some (.int x3), some (.int x4)]) (st' := [.int (-1)]) (w' := q1.2) (g := []) (K := []) (by decide +kernel) rfl rfl rfl rfl jk0 ?_
          cases h
          exact ev_iret (by decide +kernel) rfl rfl rfl rfl
def f_Count_about (x1 : Int32) (w : jW) : Option (Int32 × jW) :=
  if x1 = 0 then
    some ((w.1 3 0), w)
  else
  if x1 = 1 then
    Option.bind (f_Rows_count 6 w) fun q5 =>
    some (q5.1, q5.2)
  else
  if x1 = 2 then
    some ((w.1 3 4), w)
  else
  if x1 = 3 then
    Option.bind (f_Rows_count 10 w) fun q8 =>
    some (q8.1, q8.2)
  else
  if x1 = 4 then
    Option.bind (f_Rows_count 12 w) fun q10 =>
    some (q10.1, q10.2)
  else
  if x1 = 5 then
    Option.bind (f_Rows_count 14 w) fun q12 =>
    some (q12.1, q12.2)
  else
  if x1 = 6 then
    Option.bind (f_Rows_count 17 w) fun q14 =>
    some (q14.1, q14.2)
  else
  if x1 = 7 then
    Option.bind (f_Rows_count 24 w) fun q16 =>
    some (q16.1, q16.2)
  else
  if x1 = 8 then
    Option.bind (f_Rows_count 26 w) fun q18 =>
    some (q18.1, q18.2)
  else
  if x1 = 9 then
    Option.bind (f_Rows_count 28 w) fun q20 =>
    some (q20.1, q20.2)
  else
  if x1 = 10 then
    Option.bind (f_Rows_count 30 w) fun q22 =>
    some (q22.1, q22.2)
  else
  if x1 = 11 then
    Option.bind (f_Rows_count 32 w) fun q24 =>
    some (q24.1, q24.2)
  else
  if x1 = 12 then
    Option.bind (f_Rows_count 79 w) fun q26 =>
    some (q26.1, q26.2)
  else
  if x1 = 13 then
    Option.bind (f_Rows_count 34 w) fun q28 =>
    some (q28.1, q28.2)
  else
  if x1 = 14 then
    Option.bind (f_Rows_count 36 w) fun q30 =>
    some (q30.1, q30.2)
  else
  if x1 = 15 then
    some ((w.1 3 3), w)
  else
    if x1 < 20 then
      some ((-1), w)
    else
      Option.bind (f_Rows_at 6 (x1 - 20) 4 w) fun q1 =>
      some (q1.1, q1.2)
set_option maxRecDepth 20000 in
theorem e_Count_about {l : Launch} {G : jG} (hG : jX G) {kk : Nat} (hk : 93 ≤ kk) {x1 : Int32} {w : jW} {z : (Int32 × jW)} (h : f_Count_about x1 w = some z) : Ct l G y_Count_about d_Count_about 0 0 [.ref 2, .int x1] (jRx kk) w (some (.int z.1), (jRx kk), z.2) := by
  rw [f_Count_about] at h
  refine Ct.of (L := [some (.ref 2), some (.int x1)]) (by decide) (Nat.le_of_ble_eq_true rfl) rfl ?_
  refine ev_seg (o := 9) (nL := 2) (q := 1) (xs := [(.iload_n 1, 1, 1, 0, .null)]) (L' := [some (.ref 2), some (.int x1)]) (st' := [.int x1]) (w' := w) (g := []) (K := []) (by decide +kernel) rfl rfl rfl rfl jk0 ?_
  by_cases c3 : x1 = 0
  · replace h := jpos c3 h
    refine ev_tableIn (dflt := 252) (lo := 0) (hi := 15) (offs := #[79, 87, 98, 106, 117, 128, 139, 153, 164, 175, 186, 197, 208, 222, 233, 244]) (len := 79) (off := 79) (tgt := 80) (by decide +kernel) (by rw [c3]; decide) (by rw [c3]; decide) (by rw [c3]; decide) (by decide) ?_
    refine ev_seg (o := 9) (nL := 2) (q := 87) (xs := [(.aload_n 0, 1, 0, 0, .null), (.getfield 12, 3, 9, 0, .ref 6), (.getfield 119, 3, 6, 0, .int 0)]) (L' := [some (.ref 2), some (.int x1)]) (st' := [.int (w.1 3 0)]) (w' := w) (g := []) (K := [(3, 6), (3, 6), (2, 9)]) (by decide +kernel) rfl rfl rfl rfl (jk1 (kz_3 hk) (jk1 (kz_3 hk) (jk1 (kz_2 hk) jk0))) ?_
    cases h
    exact ev_iret (by decide +kernel) rfl rfl rfl rfl
  · replace h := jneg c3 h
    by_cases c4 : x1 = 1
    · replace h := jpos c4 h
      refine ev_tableIn (dflt := 252) (lo := 0) (hi := 15) (offs := #[79, 87, 98, 106, 117, 128, 139, 153, 164, 175, 186, 197, 208, 222, 233, 244]) (len := 79) (off := 87) (tgt := 88) (by decide +kernel) (by rw [c4]; decide) (by rw [c4]; decide) (by rw [c4]; decide) (by decide) ?_
      refine ev_seg (o := 9) (nL := 2) (q := 95) (xs := [(.aload_n 0, 1, 0, 0, .null), (.getfield 12, 3, 9, 0, .ref 6), (.getfield 58, 3, 6, 6, .ref 3)]) (L' := [some (.ref 2), some (.int x1)]) (st' := [.ref 6]) (w' := w) (g := []) (K := [(6, 3), (3, 6), (3, 6), (2, 9)]) (by decide +kernel) rfl rfl rfl rfl (jk1 (kz_6 hk) (jk1 (kz_3 hk) (jk1 (kz_3 hk) (jk1 (kz_2 hk) jk0)))) ?_
      obtain ⟨q5, hq5, h⟩ := jbe h
      refine ev_callV (ci := 3) (a := 6) (y2 := y_Rows_count) (o := 9) (idx := 103) (d2 := d_Rows_count) (n := 0) (mc2 := 0) (ms2 := 0) (As := []) (st := []) (res2 := (some (.int q5.1), (jRx kk), q5.2)) (by decide +kernel) rfl lk_9_103 mo_Rows_count mv_Rows_count ⟨Nat.le_of_ble_eq_true rfl, Nat.le_of_ble_eq_true rfl⟩ rfl rfl (kz_6 hk) (by decide) rfl (Nat.le_of_ble_eq_true rfl) ⟨Nat.le_refl _, Nat.le_refl _⟩ hG (e_Rows_count hG hk (kz_6 hk) hq5) ?_
      cases h
      exact ev_iret (by decide +kernel) rfl rfl rfl rfl
    · replace h := jneg c4 h
      by_cases c6 : x1 = 2
      · replace h := jpos c6 h
        refine ev_tableIn (dflt := 252) (lo := 0) (hi := 15) (offs := #[79, 87, 98, 106, 117, 128, 139, 153, 164, 175, 186, 197, 208, 222, 233, 244]) (len := 79) (off := 98) (tgt := 99) (by decide +kernel) (by rw [c6]; decide) (by rw [c6]; decide) (by rw [c6]; decide) (by decide) ?_
        refine ev_seg (o := 9) (nL := 2) (q := 106) (xs := [(.aload_n 0, 1, 0, 0, .null), (.getfield 12, 3, 9, 0, .ref 6), (.getfield 87, 3, 6, 4, .int 0)]) (L' := [some (.ref 2), some (.int x1)]) (st' := [.int (w.1 3 4)]) (w' := w) (g := []) (K := [(3, 6), (3, 6), (2, 9)]) (by decide +kernel) rfl rfl rfl rfl (jk1 (kz_3 hk) (jk1 (kz_3 hk) (jk1 (kz_2 hk) jk0))) ?_
        cases h
        exact ev_iret (by decide +kernel) rfl rfl rfl rfl
      · replace h := jneg c6 h
        by_cases c7 : x1 = 3
        · replace h := jpos c7 h
          refine ev_tableIn (dflt := 252) (lo := 0) (hi := 15) (offs := #[79, 87, 98, 106, 117, 128, 139, 153, 164, 175, 186, 197, 208, 222, 233, 244]) (len := 79) (off := 106) (tgt := 107) (by decide +kernel) (by rw [c7]; decide) (by rw [c7]; decide) (by rw [c7]; decide) (by decide) ?_
          refine ev_seg (o := 9) (nL := 2) (q := 114) (xs := [(.aload_n 0, 1, 0, 0, .null), (.getfield 12, 3, 9, 0, .ref 6), (.getfield 100, 3, 6, 8, .ref 3)]) (L' := [some (.ref 2), some (.int x1)]) (st' := [.ref 10]) (w' := w) (g := []) (K := [(10, 3), (3, 6), (3, 6), (2, 9)]) (by decide +kernel) rfl rfl rfl rfl (jk1 (kz_10 hk) (jk1 (kz_3 hk) (jk1 (kz_3 hk) (jk1 (kz_2 hk) jk0)))) ?_
          obtain ⟨q8, hq8, h⟩ := jbe h
          refine ev_callV (ci := 3) (a := 10) (y2 := y_Rows_count) (o := 9) (idx := 103) (d2 := d_Rows_count) (n := 0) (mc2 := 0) (ms2 := 0) (As := []) (st := []) (res2 := (some (.int q8.1), (jRx kk), q8.2)) (by decide +kernel) rfl lk_9_103 mo_Rows_count mv_Rows_count ⟨Nat.le_of_ble_eq_true rfl, Nat.le_of_ble_eq_true rfl⟩ rfl rfl (kz_10 hk) (by decide) rfl (Nat.le_of_ble_eq_true rfl) ⟨Nat.le_refl _, Nat.le_refl _⟩ hG (e_Rows_count hG hk (kz_10 hk) hq8) ?_
          cases h
          exact ev_iret (by decide +kernel) rfl rfl rfl rfl
        · replace h := jneg c7 h
          by_cases c9 : x1 = 4
          · replace h := jpos c9 h
            refine ev_tableIn (dflt := 252) (lo := 0) (hi := 15) (offs := #[79, 87, 98, 106, 117, 128, 139, 153, 164, 175, 186, 197, 208, 222, 233, 244]) (len := 79) (off := 117) (tgt := 118) (by decide +kernel) (by rw [c9]; decide) (by rw [c9]; decide) (by rw [c9]; decide) (by decide) ?_
            refine ev_seg (o := 9) (nL := 2) (q := 125) (xs := [(.aload_n 0, 1, 0, 0, .null), (.getfield 12, 3, 9, 0, .ref 6), (.getfield 126, 3, 6, 9, .ref 3)]) (L' := [some (.ref 2), some (.int x1)]) (st' := [.ref 12]) (w' := w) (g := []) (K := [(12, 3), (3, 6), (3, 6), (2, 9)]) (by decide +kernel) rfl rfl rfl rfl (jk1 (kz_12 hk) (jk1 (kz_3 hk) (jk1 (kz_3 hk) (jk1 (kz_2 hk) jk0)))) ?_
            obtain ⟨q10, hq10, h⟩ := jbe h
            refine ev_callV (ci := 3) (a := 12) (y2 := y_Rows_count) (o := 9) (idx := 103) (d2 := d_Rows_count) (n := 0) (mc2 := 0) (ms2 := 0) (As := []) (st := []) (res2 := (some (.int q10.1), (jRx kk), q10.2)) (by decide +kernel) rfl lk_9_103 mo_Rows_count mv_Rows_count ⟨Nat.le_of_ble_eq_true rfl, Nat.le_of_ble_eq_true rfl⟩ rfl rfl (kz_12 hk) (by decide) rfl (Nat.le_of_ble_eq_true rfl) ⟨Nat.le_refl _, Nat.le_refl _⟩ hG (e_Rows_count hG hk (kz_12 hk) hq10) ?_
            cases h
            exact ev_iret (by decide +kernel) rfl rfl rfl rfl
          · replace h := jneg c9 h
            by_cases c11 : x1 = 5
            · replace h := jpos c11 h
              refine ev_tableIn (dflt := 252) (lo := 0) (hi := 15) (offs := #[79, 87, 98, 106, 117, 128, 139, 153, 164, 175, 186, 197, 208, 222, 233, 244]) (len := 79) (off := 128) (tgt := 129) (by decide +kernel) (by rw [c11]; decide) (by rw [c11]; decide) (by rw [c11]; decide) (by decide) ?_
              refine ev_seg (o := 9) (nL := 2) (q := 136) (xs := [(.aload_n 0, 1, 0, 0, .null), (.getfield 12, 3, 9, 0, .ref 6), (.getfield 141, 3, 6, 10, .ref 3)]) (L' := [some (.ref 2), some (.int x1)]) (st' := [.ref 14]) (w' := w) (g := []) (K := [(14, 3), (3, 6), (3, 6), (2, 9)]) (by decide +kernel) rfl rfl rfl rfl (jk1 (kz_14 hk) (jk1 (kz_3 hk) (jk1 (kz_3 hk) (jk1 (kz_2 hk) jk0)))) ?_
              obtain ⟨q12, hq12, h⟩ := jbe h
              refine ev_callV (ci := 3) (a := 14) (y2 := y_Rows_count) (o := 9) (idx := 103) (d2 := d_Rows_count) (n := 0) (mc2 := 0) (ms2 := 0) (As := []) (st := []) (res2 := (some (.int q12.1), (jRx kk), q12.2)) (by decide +kernel) rfl lk_9_103 mo_Rows_count mv_Rows_count ⟨Nat.le_of_ble_eq_true rfl, Nat.le_of_ble_eq_true rfl⟩ rfl rfl (kz_14 hk) (by decide) rfl (Nat.le_of_ble_eq_true rfl) ⟨Nat.le_refl _, Nat.le_refl _⟩ hG (e_Rows_count hG hk (kz_14 hk) hq12) ?_
              cases h
              exact ev_iret (by decide +kernel) rfl rfl rfl rfl
            · replace h := jneg c11 h
              by_cases c13 : x1 = 6
              · replace h := jpos c13 h
                refine ev_tableIn (dflt := 252) (lo := 0) (hi := 15) (offs := #[79, 87, 98, 106, 117, 128, 139, 153, 164, 175, 186, 197, 208, 222, 233, 244]) (len := 79) (off := 139) (tgt := 140) (by decide +kernel) (by rw [c13]; decide) (by rw [c13]; decide) (by rw [c13]; decide) (by decide) ?_
                refine ev_seg (o := 9) (nL := 2) (q := 150) (xs := [(.aload_n 0, 1, 0, 0, .null), (.getfield 12, 3, 9, 0, .ref 6), (.getfield 132, 3, 6, 11, .ref 8), (.getfield 173, 3, 8, 0, .ref 3)]) (L' := [some (.ref 2), some (.int x1)]) (st' := [.ref 17]) (w' := w) (g := []) (K := [(17, 3), (16, 8), (16, 8), (3, 6), (3, 6), (2, 9)]) (by decide +kernel) rfl rfl rfl rfl (jk1 (kz_17 hk) (jk1 (kz_16 hk) (jk1 (kz_16 hk) (jk1 (kz_3 hk) (jk1 (kz_3 hk) (jk1 (kz_2 hk) jk0)))))) ?_
                obtain ⟨q14, hq14, h⟩ := jbe h
                refine ev_callV (ci := 3) (a := 17) (y2 := y_Rows_count) (o := 9) (idx := 103) (d2 := d_Rows_count) (n := 0) (mc2 := 0) (ms2 := 0) (As := []) (st := []) (res2 := (some (.int q14.1), (jRx kk), q14.2)) (by decide +kernel) rfl lk_9_103 mo_Rows_count mv_Rows_count ⟨Nat.le_of_ble_eq_true rfl, Nat.le_of_ble_eq_true rfl⟩ rfl rfl (kz_17 hk) (by decide) rfl (Nat.le_of_ble_eq_true rfl) ⟨Nat.le_refl _, Nat.le_refl _⟩ hG (e_Rows_count hG hk (kz_17 hk) hq14) ?_
                cases h
                exact ev_iret (by decide +kernel) rfl rfl rfl rfl
              · replace h := jneg c13 h
                by_cases c15 : x1 = 7
                · replace h := jpos c15 h
                  refine ev_tableIn (dflt := 252) (lo := 0) (hi := 15) (offs := #[79, 87, 98, 106, 117, 128, 139, 153, 164, 175, 186, 197, 208, 222, 233, 244]) (len := 79) (off := 153) (tgt := 154) (by decide +kernel) (by rw [c15]; decide) (by rw [c15]; decide) (by rw [c15]; decide) (by decide) ?_
                  refine ev_seg (o := 9) (nL := 2) (q := 161) (xs := [(.aload_n 0, 1, 0, 0, .null), (.getfield 12, 3, 9, 0, .ref 6), (.getfield 203, 3, 6, 12, .ref 3)]) (L' := [some (.ref 2), some (.int x1)]) (st' := [.ref 24]) (w' := w) (g := []) (K := [(24, 3), (3, 6), (3, 6), (2, 9)]) (by decide +kernel) rfl rfl rfl rfl (jk1 (kz_24 hk) (jk1 (kz_3 hk) (jk1 (kz_3 hk) (jk1 (kz_2 hk) jk0)))) ?_
                  obtain ⟨q16, hq16, h⟩ := jbe h
                  refine ev_callV (ci := 3) (a := 24) (y2 := y_Rows_count) (o := 9) (idx := 103) (d2 := d_Rows_count) (n := 0) (mc2 := 0) (ms2 := 0) (As := []) (st := []) (res2 := (some (.int q16.1), (jRx kk), q16.2)) (by decide +kernel) rfl lk_9_103 mo_Rows_count mv_Rows_count ⟨Nat.le_of_ble_eq_true rfl, Nat.le_of_ble_eq_true rfl⟩ rfl rfl (kz_24 hk) (by decide) rfl (Nat.le_of_ble_eq_true rfl) ⟨Nat.le_refl _, Nat.le_refl _⟩ hG (e_Rows_count hG hk (kz_24 hk) hq16) ?_
                  cases h
                  exact ev_iret (by decide +kernel) rfl rfl rfl rfl
                · replace h := jneg c15 h
                  by_cases c17 : x1 = 8
                  · replace h := jpos c17 h
                    refine ev_tableIn (dflt := 252) (lo := 0) (hi := 15) (offs := #[79, 87, 98, 106, 117, 128, 139, 153, 164, 175, 186, 197, 208, 222, 233, 244]) (len := 79) (off := 164) (tgt := 165) (by decide +kernel) (by rw [c17]; decide) (by rw [c17]; decide) (by rw [c17]; decide) (by decide) ?_
                    refine ev_seg (o := 9) (nL := 2) (q := 172) (xs := [(.aload_n 0, 1, 0, 0, .null), (.getfield 12, 3, 9, 0, .ref 6), (.getfield 221, 3, 6, 13, .ref 3)]) (L' := [some (.ref 2), some (.int x1)]) (st' := [.ref 26]) (w' := w) (g := []) (K := [(26, 3), (3, 6), (3, 6), (2, 9)]) (by decide +kernel) rfl rfl rfl rfl (jk1 (kz_26 hk) (jk1 (kz_3 hk) (jk1 (kz_3 hk) (jk1 (kz_2 hk) jk0)))) ?_
                    obtain ⟨q18, hq18, h⟩ := jbe h
                    refine ev_callV (ci := 3) (a := 26) (y2 := y_Rows_count) (o := 9) (idx := 103) (d2 := d_Rows_count) (n := 0) (mc2 := 0) (ms2 := 0) (As := []) (st := []) (res2 := (some (.int q18.1), (jRx kk), q18.2)) (by decide +kernel) rfl lk_9_103 mo_Rows_count mv_Rows_count ⟨Nat.le_of_ble_eq_true rfl, Nat.le_of_ble_eq_true rfl⟩ rfl rfl (kz_26 hk) (by decide) rfl (Nat.le_of_ble_eq_true rfl) ⟨Nat.le_refl _, Nat.le_refl _⟩ hG (e_Rows_count hG hk (kz_26 hk) hq18) ?_
                    cases h
                    exact ev_iret (by decide +kernel) rfl rfl rfl rfl
                  · replace h := jneg c17 h
                    by_cases c19 : x1 = 9
                    · replace h := jpos c19 h
                      refine ev_tableIn (dflt := 252) (lo := 0) (hi := 15) (offs := #[79, 87, 98, 106, 117, 128, 139, 153, 164, 175, 186, 197, 208, 222, 233, 244]) (len := 79) (off := 175) (tgt := 176) (by decide +kernel) (by rw [c19]; decide) (by rw [c19]; decide) (by rw [c19]; decide) (by decide) ?_
                      refine ev_seg (o := 9) (nL := 2) (q := 183) (xs := [(.aload_n 0, 1, 0, 0, .null), (.getfield 12, 3, 9, 0, .ref 6), (.getfield 237, 3, 6, 14, .ref 3)]) (L' := [some (.ref 2), some (.int x1)]) (st' := [.ref 28]) (w' := w) (g := []) (K := [(28, 3), (3, 6), (3, 6), (2, 9)]) (by decide +kernel) rfl rfl rfl rfl (jk1 (kz_28 hk) (jk1 (kz_3 hk) (jk1 (kz_3 hk) (jk1 (kz_2 hk) jk0)))) ?_
                      obtain ⟨q20, hq20, h⟩ := jbe h
                      refine ev_callV (ci := 3) (a := 28) (y2 := y_Rows_count) (o := 9) (idx := 103) (d2 := d_Rows_count) (n := 0) (mc2 := 0) (ms2 := 0) (As := []) (st := []) (res2 := (some (.int q20.1), (jRx kk), q20.2)) (by decide +kernel) rfl lk_9_103 mo_Rows_count mv_Rows_count ⟨Nat.le_of_ble_eq_true rfl, Nat.le_of_ble_eq_true rfl⟩ rfl rfl (kz_28 hk) (by decide) rfl (Nat.le_of_ble_eq_true rfl) ⟨Nat.le_refl _, Nat.le_refl _⟩ hG (e_Rows_count hG hk (kz_28 hk) hq20) ?_
                      cases h
                      exact ev_iret (by decide +kernel) rfl rfl rfl rfl
                    · replace h := jneg c19 h
                      by_cases c21 : x1 = 10
                      · replace h := jpos c21 h
                        refine ev_tableIn (dflt := 252) (lo := 0) (hi := 15) (offs := #[79, 87, 98, 106, 117, 128, 139, 153, 164, 175, 186, 197, 208, 222, 233, 244]) (len := 79) (off := 186) (tgt := 187) (by decide +kernel) (by rw [c21]; decide) (by rw [c21]; decide) (by rw [c21]; decide) (by decide) ?_
                        refine ev_seg (o := 9) (nL := 2) (q := 194) (xs := [(.aload_n 0, 1, 0, 0, .null), (.getfield 12, 3, 9, 0, .ref 6), (.getfield 260, 3, 6, 15, .ref 3)]) (L' := [some (.ref 2), some (.int x1)]) (st' := [.ref 30]) (w' := w) (g := []) (K := [(30, 3), (3, 6), (3, 6), (2, 9)]) (by decide +kernel) rfl rfl rfl rfl (jk1 (kz_30 hk) (jk1 (kz_3 hk) (jk1 (kz_3 hk) (jk1 (kz_2 hk) jk0)))) ?_
                        obtain ⟨q22, hq22, h⟩ := jbe h
                        refine ev_callV (ci := 3) (a := 30) (y2 := y_Rows_count) (o := 9) (idx := 103) (d2 := d_Rows_count) (n := 0) (mc2 := 0) (ms2 := 0) (As := []) (st := []) (res2 := (some (.int q22.1), (jRx kk), q22.2)) (by decide +kernel) rfl lk_9_103 mo_Rows_count mv_Rows_count ⟨Nat.le_of_ble_eq_true rfl, Nat.le_of_ble_eq_true rfl⟩ rfl rfl (kz_30 hk) (by decide) rfl (Nat.le_of_ble_eq_true rfl) ⟨Nat.le_refl _, Nat.le_refl _⟩ hG (e_Rows_count hG hk (kz_30 hk) hq22) ?_
                        cases h
                        exact ev_iret (by decide +kernel) rfl rfl rfl rfl
                      · replace h := jneg c21 h
                        by_cases c23 : x1 = 11
                        · replace h := jpos c23 h
                          refine ev_tableIn (dflt := 252) (lo := 0) (hi := 15) (offs := #[79, 87, 98, 106, 117, 128, 139, 153, 164, 175, 186, 197, 208, 222, 233, 244]) (len := 79) (off := 197) (tgt := 198) (by decide +kernel) (by rw [c23]; decide) (by rw [c23]; decide) (by rw [c23]; decide) (by decide) ?_
                          refine ev_seg (o := 9) (nL := 2) (q := 205) (xs := [(.aload_n 0, 1, 0, 0, .null), (.getfield 12, 3, 9, 0, .ref 6), (.getfield 263, 3, 6, 16, .ref 3)]) (L' := [some (.ref 2), some (.int x1)]) (st' := [.ref 32]) (w' := w) (g := []) (K := [(32, 3), (3, 6), (3, 6), (2, 9)]) (by decide +kernel) rfl rfl rfl rfl (jk1 (kz_32 hk) (jk1 (kz_3 hk) (jk1 (kz_3 hk) (jk1 (kz_2 hk) jk0)))) ?_
                          obtain ⟨q24, hq24, h⟩ := jbe h
                          refine ev_callV (ci := 3) (a := 32) (y2 := y_Rows_count) (o := 9) (idx := 103) (d2 := d_Rows_count) (n := 0) (mc2 := 0) (ms2 := 0) (As := []) (st := []) (res2 := (some (.int q24.1), (jRx kk), q24.2)) (by decide +kernel) rfl lk_9_103 mo_Rows_count mv_Rows_count ⟨Nat.le_of_ble_eq_true rfl, Nat.le_of_ble_eq_true rfl⟩ rfl rfl (kz_32 hk) (by decide) rfl (Nat.le_of_ble_eq_true rfl) ⟨Nat.le_refl _, Nat.le_refl _⟩ hG (e_Rows_count hG hk (kz_32 hk) hq24) ?_
                          cases h
                          exact ev_iret (by decide +kernel) rfl rfl rfl rfl
                        · replace h := jneg c23 h
                          by_cases c25 : x1 = 12
                          · replace h := jpos c25 h
                            refine ev_tableIn (dflt := 252) (lo := 0) (hi := 15) (offs := #[79, 87, 98, 106, 117, 128, 139, 153, 164, 175, 186, 197, 208, 222, 233, 244]) (len := 79) (off := 208) (tgt := 209) (by decide +kernel) (by rw [c25]; decide) (by rw [c25]; decide) (by rw [c25]; decide) (by decide) ?_
                            refine ev_seg (o := 9) (nL := 2) (q := 219) (xs := [(.aload_n 0, 1, 0, 0, .null), (.getfield 22, 3, 9, 2, .ref 2), (.getfield 158, 3, 2, 5, .ref 7), (.getfield 162, 3, 7, 0, .ref 3)]) (L' := [some (.ref 2), some (.int x1)]) (st' := [.ref 79]) (w' := w) (g := []) (K := [(79, 3), (78, 7), (78, 7), (73, 2), (73, 2), (2, 9)]) (by decide +kernel) rfl rfl rfl rfl (jk1 (kz_79 hk) (jk1 (kz_78 hk) (jk1 (kz_78 hk) (jk1 (kz_73 hk) (jk1 (kz_73 hk) (jk1 (kz_2 hk) jk0)))))) ?_
                            obtain ⟨q26, hq26, h⟩ := jbe h
                            refine ev_callV (ci := 3) (a := 79) (y2 := y_Rows_count) (o := 9) (idx := 103) (d2 := d_Rows_count) (n := 0) (mc2 := 0) (ms2 := 0) (As := []) (st := []) (res2 := (some (.int q26.1), (jRx kk), q26.2)) (by decide +kernel) rfl lk_9_103 mo_Rows_count mv_Rows_count ⟨Nat.le_of_ble_eq_true rfl, Nat.le_of_ble_eq_true rfl⟩ rfl rfl (kz_79 hk) (by decide) rfl (Nat.le_of_ble_eq_true rfl) ⟨Nat.le_refl _, Nat.le_refl _⟩ hG (e_Rows_count hG hk (kz_79 hk) hq26) ?_
                            cases h
                            exact ev_iret (by decide +kernel) rfl rfl rfl rfl
                          · replace h := jneg c25 h
                            by_cases c27 : x1 = 13
                            · replace h := jpos c27 h
                              refine ev_tableIn (dflt := 252) (lo := 0) (hi := 15) (offs := #[79, 87, 98, 106, 117, 128, 139, 153, 164, 175, 186, 197, 208, 222, 233, 244]) (len := 79) (off := 222) (tgt := 223) (by decide +kernel) (by rw [c27]; decide) (by rw [c27]; decide) (by rw [c27]; decide) (by decide) ?_
                              refine ev_seg (o := 9) (nL := 2) (q := 230) (xs := [(.aload_n 0, 1, 0, 0, .null), (.getfield 12, 3, 9, 0, .ref 6), (.getfield 230, 3, 6, 17, .ref 3)]) (L' := [some (.ref 2), some (.int x1)]) (st' := [.ref 34]) (w' := w) (g := []) (K := [(34, 3), (3, 6), (3, 6), (2, 9)]) (by decide +kernel) rfl rfl rfl rfl (jk1 (kz_34 hk) (jk1 (kz_3 hk) (jk1 (kz_3 hk) (jk1 (kz_2 hk) jk0)))) ?_
                              obtain ⟨q28, hq28, h⟩ := jbe h
                              refine ev_callV (ci := 3) (a := 34) (y2 := y_Rows_count) (o := 9) (idx := 103) (d2 := d_Rows_count) (n := 0) (mc2 := 0) (ms2 := 0) (As := []) (st := []) (res2 := (some (.int q28.1), (jRx kk), q28.2)) (by decide +kernel) rfl lk_9_103 mo_Rows_count mv_Rows_count ⟨Nat.le_of_ble_eq_true rfl, Nat.le_of_ble_eq_true rfl⟩ rfl rfl (kz_34 hk) (by decide) rfl (Nat.le_of_ble_eq_true rfl) ⟨Nat.le_refl _, Nat.le_refl _⟩ hG (e_Rows_count hG hk (kz_34 hk) hq28) ?_
                              cases h
                              exact ev_iret (by decide +kernel) rfl rfl rfl rfl
                            · replace h := jneg c27 h
                              by_cases c29 : x1 = 14
                              · replace h := jpos c29 h
                                refine ev_tableIn (dflt := 252) (lo := 0) (hi := 15) (offs := #[79, 87, 98, 106, 117, 128, 139, 153, 164, 175, 186, 197, 208, 222, 233, 244]) (len := 79) (off := 233) (tgt := 234) (by decide +kernel) (by rw [c29]; decide) (by rw [c29]; decide) (by rw [c29]; decide) (by decide) ?_
                                refine ev_seg (o := 9) (nL := 2) (q := 241) (xs := [(.aload_n 0, 1, 0, 0, .null), (.getfield 12, 3, 9, 0, .ref 6), (.getfield 294, 3, 6, 18, .ref 3)]) (L' := [some (.ref 2), some (.int x1)]) (st' := [.ref 36]) (w' := w) (g := []) (K := [(36, 3), (3, 6), (3, 6), (2, 9)]) (by decide +kernel) rfl rfl rfl rfl (jk1 (kz_36 hk) (jk1 (kz_3 hk) (jk1 (kz_3 hk) (jk1 (kz_2 hk) jk0)))) ?_
                                obtain ⟨q30, hq30, h⟩ := jbe h
                                refine ev_callV (ci := 3) (a := 36) (y2 := y_Rows_count) (o := 9) (idx := 103) (d2 := d_Rows_count) (n := 0) (mc2 := 0) (ms2 := 0) (As := []) (st := []) (res2 := (some (.int q30.1), (jRx kk), q30.2)) (by decide +kernel) rfl lk_9_103 mo_Rows_count mv_Rows_count ⟨Nat.le_of_ble_eq_true rfl, Nat.le_of_ble_eq_true rfl⟩ rfl rfl (kz_36 hk) (by decide) rfl (Nat.le_of_ble_eq_true rfl) ⟨Nat.le_refl _, Nat.le_refl _⟩ hG (e_Rows_count hG hk (kz_36 hk) hq30) ?_
                                cases h
                                exact ev_iret (by decide +kernel) rfl rfl rfl rfl
                              · replace h := jneg c29 h
                                by_cases c31 : x1 = 15
                                · replace h := jpos c31 h
                                  refine ev_tableIn (dflt := 252) (lo := 0) (hi := 15) (offs := #[79, 87, 98, 106, 117, 128, 139, 153, 164, 175, 186, 197, 208, 222, 233, 244]) (len := 79) (off := 244) (tgt := 245) (by decide +kernel) (by rw [c31]; decide) (by rw [c31]; decide) (by rw [c31]; decide) (by decide) ?_
                                  refine ev_seg (o := 9) (nL := 2) (q := 252) (xs := [(.aload_n 0, 1, 0, 0, .null), (.getfield 12, 3, 9, 0, .ref 6), (.getfield 116, 3, 6, 3, .int 0)]) (L' := [some (.ref 2), some (.int x1)]) (st' := [.int (w.1 3 3)]) (w' := w) (g := []) (K := [(3, 6), (3, 6), (2, 9)]) (by decide +kernel) rfl rfl rfl rfl (jk1 (kz_3 hk) (jk1 (kz_3 hk) (jk1 (kz_2 hk) jk0))) ?_
                                  cases h
                                  exact ev_iret (by decide +kernel) rfl rfl rfl rfl
                                · replace h := jneg c31 h
                                  have ec3 := lv_neT (a := 0) c3 rfl
                                  have ec4 := lv_neT (a := 1) c4 rfl
                                  have ec6 := lv_neT (a := 2) c6 rfl
                                  have ec7 := lv_neT (a := 3) c7 rfl
                                  have ec9 := lv_neT (a := 4) c9 rfl
                                  have ec11 := lv_neT (a := 5) c11 rfl
                                  have ec13 := lv_neT (a := 6) c13 rfl
                                  have ec15 := lv_neT (a := 7) c15 rfl
                                  have ec17 := lv_neT (a := 8) c17 rfl
                                  have ec19 := lv_neT (a := 9) c19 rfl
                                  have ec21 := lv_neT (a := 10) c21 rfl
                                  have ec23 := lv_neT (a := 11) c23 rfl
                                  have ec25 := lv_neT (a := 12) c25 rfl
                                  have ec27 := lv_neT (a := 13) c27 rfl
                                  have ec29 := lv_neT (a := 14) c29 rfl
                                  have ec31 := lv_neT (a := 15) c31 rfl
                                  refine ev_tableOut (dflt := 252) (lo := 0) (hi := 15) (offs := #[79, 87, 98, 106, 117, 128, 139, 153, 164, 175, 186, 197, 208, 222, 233, 244]) (len := 79) (tgt := 253) (by decide +kernel) (by omega) (by decide) ?_
                                  refine ev_seg (o := 9) (nL := 2) (q := 256) (xs := [(.iload_n 1, 1, 1, 0, .null), (.bipush 20, 2, 0, 0, .int 20)]) (L' := [some (.ref 2), some (.int x1)]) (st' := [.int 20, .int x1]) (w' := w) (g := []) (K := []) (by decide +kernel) rfl rfl rfl rfl jk0 ?_
                                  refine ev_icmp_ge (off := 7) (tgt := 263) (by decide +kernel) (by decide) (fun c2 => ?_) (fun c2 => ?_)
                                  · replace h := jneg c2 h
                                    refine ev_seg (o := 9) (nL := 2) (q := 275) (xs := [(.aload_n 0, 1, 0, 0, .null), (.getfield 12, 3, 9, 0, .ref 6), (.getfield 58, 3, 6, 6, .ref 3), (.iload_n 1, 1, 1, 0, .null), (.bipush 20, 2, 0, 0, .int 20), (.isub, 1, 0, 0, .null), (.iconst 4, 1, 0, 0, .int 4)]) (L' := [some (.ref 2), some (.int x1)]) (st' := [.int 4, .int (x1 - 20), .ref 6]) (w' := w) (g := []) (K := [(6, 3), (3, 6), (3, 6), (2, 9)]) (by decide +kernel) rfl rfl rfl rfl (jk1 (kz_6 hk) (jk1 (kz_3 hk) (jk1 (kz_3 hk) (jk1 (kz_2 hk) jk0)))) ?_
                                    obtain ⟨q1, hq1, h⟩ := jbe h
                                    refine ev_callV (ci := 3) (a := 6) (y2 := y_Rows_at) (o := 9) (idx := 83) (d2 := d_Rows_at) (n := 2) (mc2 := 0) (ms2 := 0) (As := [.int (x1 - 20), .int 4]) (st := []) (res2 := (some (.int q1.1), (jRx kk), q1.2)) (by decide +kernel) rfl lk_9_83 mo_Rows_at mv_Rows_at ⟨Nat.le_of_ble_eq_true rfl, Nat.le_of_ble_eq_true rfl⟩ rfl rfl (kz_6 hk) (by decide) rfl (Nat.le_of_ble_eq_true rfl) ⟨Nat.le_refl _, Nat.le_refl _⟩ hG (e_Rows_at hG hk (kz_6 hk) hq1) ?_
                                    cases h
                                    exact ev_iret (by decide +kernel) rfl rfl rfl rfl
                                  · replace h := jpos c2 h
                                    refine ev_seg (o := 9) (nL := 2) (q := 278) (xs := [(.iconst (-1), 1, 0, 0, .int (-1)), (.goto 18, 3, 0, 0, .null)]) (L' := [some (.ref 2), some (.int x1)]) (st' := [.int (-1)]) (w' := w) (g := []) (K := []) (by decide +kernel) rfl rfl rfl rfl jk0 ?_
                                    cases h
                                    exact ev_iret (by decide +kernel) rfl rfl rfl rfl
def f_Intg_bitCount (x0 : Int32) (w : jW) : Option (Int32 × jW) :=
  some (((((((((x0 - (((Int32.toUInt32 x0 >>> (Int32.toUInt32 1 &&& Int32.toUInt32 31)).toInt32) &&& 1431655765)) &&& 858993459) + (((Int32.toUInt32 (x0 - (((Int32.toUInt32 x0 >>> (Int32.toUInt32 1 &&& Int32.toUInt32 31)).toInt32) &&& 1431655765)) >>> (Int32.toUInt32 2 &&& Int32.toUInt32 31)).toInt32) &&& 858993459)) + ((Int32.toUInt32 (((x0 - (((Int32.toUInt32 x0 >>> (Int32.toUInt32 1 &&& Int32.toUInt32 31)).toInt32) &&& 1431655765)) &&& 858993459) + (((Int32.toUInt32 (x0 - (((Int32.toUInt32 x0 >>> (Int32.toUInt32 1 &&& Int32.toUInt32 31)).toInt32) &&& 1431655765)) >>> (Int32.toUInt32 2 &&& Int32.toUInt32 31)).toInt32) &&& 858993459)) >>> (Int32.toUInt32 4 &&& Int32.toUInt32 31)).toInt32)) &&& 252645135) + ((Int32.toUInt32 (((((x0 - (((Int32.toUInt32 x0 >>> (Int32.toUInt32 1 &&& Int32.toUInt32 31)).toInt32) &&& 1431655765)) &&& 858993459) + (((Int32.toUInt32 (x0 - (((Int32.toUInt32 x0 >>> (Int32.toUInt32 1 &&& Int32.toUInt32 31)).toInt32) &&& 1431655765)) >>> (Int32.toUInt32 2 &&& Int32.toUInt32 31)).toInt32) &&& 858993459)) + ((Int32.toUInt32 (((x0 - (((Int32.toUInt32 x0 >>> (Int32.toUInt32 1 &&& Int32.toUInt32 31)).toInt32) &&& 1431655765)) &&& 858993459) + (((Int32.toUInt32 (x0 - (((Int32.toUInt32 x0 >>> (Int32.toUInt32 1 &&& Int32.toUInt32 31)).toInt32) &&& 1431655765)) >>> (Int32.toUInt32 2 &&& Int32.toUInt32 31)).toInt32) &&& 858993459)) >>> (Int32.toUInt32 4 &&& Int32.toUInt32 31)).toInt32)) &&& 252645135) >>> (Int32.toUInt32 8 &&& Int32.toUInt32 31)).toInt32)) + ((Int32.toUInt32 ((((((x0 - (((Int32.toUInt32 x0 >>> (Int32.toUInt32 1 &&& Int32.toUInt32 31)).toInt32) &&& 1431655765)) &&& 858993459) + (((Int32.toUInt32 (x0 - (((Int32.toUInt32 x0 >>> (Int32.toUInt32 1 &&& Int32.toUInt32 31)).toInt32) &&& 1431655765)) >>> (Int32.toUInt32 2 &&& Int32.toUInt32 31)).toInt32) &&& 858993459)) + ((Int32.toUInt32 (((x0 - (((Int32.toUInt32 x0 >>> (Int32.toUInt32 1 &&& Int32.toUInt32 31)).toInt32) &&& 1431655765)) &&& 858993459) + (((Int32.toUInt32 (x0 - (((Int32.toUInt32 x0 >>> (Int32.toUInt32 1 &&& Int32.toUInt32 31)).toInt32) &&& 1431655765)) >>> (Int32.toUInt32 2 &&& Int32.toUInt32 31)).toInt32) &&& 858993459)) >>> (Int32.toUInt32 4 &&& Int32.toUInt32 31)).toInt32)) &&& 252645135) + ((Int32.toUInt32 (((((x0 - (((Int32.toUInt32 x0 >>> (Int32.toUInt32 1 &&& Int32.toUInt32 31)).toInt32) &&& 1431655765)) &&& 858993459) + (((Int32.toUInt32 (x0 - (((Int32.toUInt32 x0 >>> (Int32.toUInt32 1 &&& Int32.toUInt32 31)).toInt32) &&& 1431655765)) >>> (Int32.toUInt32 2 &&& Int32.toUInt32 31)).toInt32) &&& 858993459)) + ((Int32.toUInt32 (((x0 - (((Int32.toUInt32 x0 >>> (Int32.toUInt32 1 &&& Int32.toUInt32 31)).toInt32) &&& 1431655765)) &&& 858993459) + (((Int32.toUInt32 (x0 - (((Int32.toUInt32 x0 >>> (Int32.toUInt32 1 &&& Int32.toUInt32 31)).toInt32) &&& 1431655765)) >>> (Int32.toUInt32 2 &&& Int32.toUInt32 31)).toInt32) &&& 858993459)) >>> (Int32.toUInt32 4 &&& Int32.toUInt32 31)).toInt32)) &&& 252645135) >>> (Int32.toUInt32 8 &&& Int32.toUInt32 31)).toInt32)) >>> (Int32.toUInt32 16 &&& Int32.toUInt32 31)).toInt32)) &&& 63), w)
set_option maxRecDepth 20000 in
theorem e_Intg_bitCount {l : Launch} {G : jG} (hG : jX G) {kk : Nat} (hk : 93 ≤ kk) {x0 : Int32} {w : jW} {z : (Int32 × jW)} (h : f_Intg_bitCount x0 w = some z) : Ct l G y_Intg_bitCount d_Intg_bitCount 0 0 [.int x0] (jRx kk) w (some (.int z.1), (jRx kk), z.2) := by
  rw [f_Intg_bitCount] at h
  refine Ct.of (L := [some (.int x0)]) (by decide) (Nat.le_of_ble_eq_true rfl) rfl ?_
  refine ev_seg (o := 11) (nL := 1) (q := 52) (xs := [(.iload_n 0, 1, 0, 0, .null), (.iload_n 0, 1, 0, 0, .null), (.iconst 1, 1, 0, 0, .int 1), (.iushr, 1, 0, 0, .null), (.ldc_w 265, 3, 0, 0, .int 1431655765), (.iand, 1, 0, 0, .null), (.isub, 1, 0, 0, .null), (.istore_n 0, 1, 0, 0, .null), (.iload_n 0, 1, 0, 0, .null), (.ldc_w 266, 3, 0, 0, .int 858993459), (.iand, 1, 0, 0, .null), (.iload_n 0, 1, 0, 0, .null), (.iconst 2, 1, 0, 0, .int 2), (.iushr, 1, 0, 0, .null), (.ldc_w 266, 3, 0, 0, .int 858993459), (.iand, 1, 0, 0, .null), (.iadd, 1, 0, 0, .null), (.istore_n 0, 1, 0, 0, .null), (.iload_n 0, 1, 0, 0, .null), (.iload_n 0, 1, 0, 0, .null), (.iconst 4, 1, 0, 0, .int 4), (.iushr, 1, 0, 0, .null), (.iadd, 1, 0, 0, .null), (.ldc_w 267, 3, 0, 0, .int 252645135), (.iand, 1, 0, 0, .null), (.istore_n 0, 1, 0, 0, .null), (.iload_n 0, 1, 0, 0, .null), (.iload_n 0, 1, 0, 0, .null), (.bipush 8, 2, 0, 0, .int 8), (.iushr, 1, 0, 0, .null), (.iadd, 1, 0, 0, .null), (.istore_n 0, 1, 0, 0, .null), (.iload_n 0, 1, 0, 0, .null), (.iload_n 0, 1, 0, 0, .null), (.bipush 16, 2, 0, 0, .int 16), (.iushr, 1, 0, 0, .null), (.iadd, 1, 0, 0, .null), (.istore_n 0, 1, 0, 0, .null), (.iload_n 0, 1, 0, 0, .null), (.bipush 63, 2, 0, 0, .int 63), (.iand, 1, 0, 0, .null)]) (L' := [some (.int (((((((x0 - (((Int32.toUInt32 x0 >>> (Int32.toUInt32 1 &&& Int32.toUInt32 31)).toInt32) &&& 1431655765)) &&& 858993459) + (((Int32.toUInt32 (x0 - (((Int32.toUInt32 x0 >>> (Int32.toUInt32 1 &&& Int32.toUInt32 31)).toInt32) &&& 1431655765)) >>> (Int32.toUInt32 2 &&& Int32.toUInt32 31)).toInt32) &&& 858993459)) + ((Int32.toUInt32 (((x0 - (((Int32.toUInt32 x0 >>> (Int32.toUInt32 1 &&& Int32.toUInt32 31)).toInt32) &&& 1431655765)) &&& 858993459) + (((Int32.toUInt32 (x0 - (((Int32.toUInt32 x0 >>> (Int32.toUInt32 1 &&& Int32.toUInt32 31)).toInt32) &&& 1431655765)) >>> (Int32.toUInt32 2 &&& Int32.toUInt32 31)).toInt32) &&& 858993459)) >>> (Int32.toUInt32 4 &&& Int32.toUInt32 31)).toInt32)) &&& 252645135) + ((Int32.toUInt32 (((((x0 - (((Int32.toUInt32 x0 >>> (Int32.toUInt32 1 &&& Int32.toUInt32 31)).toInt32) &&& 1431655765)) &&& 858993459) + (((Int32.toUInt32 (x0 - (((Int32.toUInt32 x0 >>> (Int32.toUInt32 1 &&& Int32.toUInt32 31)).toInt32) &&& 1431655765)) >>> (Int32.toUInt32 2 &&& Int32.toUInt32 31)).toInt32) &&& 858993459)) + ((Int32.toUInt32 (((x0 - (((Int32.toUInt32 x0 >>> (Int32.toUInt32 1 &&& Int32.toUInt32 31)).toInt32) &&& 1431655765)) &&& 858993459) + (((Int32.toUInt32 (x0 - (((Int32.toUInt32 x0 >>> (Int32.toUInt32 1 &&& Int32.toUInt32 31)).toInt32) &&& 1431655765)) >>> (Int32.toUInt32 2 &&& Int32.toUInt32 31)).toInt32) &&& 858993459)) >>> (Int32.toUInt32 4 &&& Int32.toUInt32 31)).toInt32)) &&& 252645135) >>> (Int32.toUInt32 8 &&& Int32.toUInt32 31)).toInt32)) + ((Int32.toUInt32 ((((((x0 - (((Int32.toUInt32 x0 >>> (Int32.toUInt32 1 &&& Int32.toUInt32 31)).toInt32) &&& 1431655765)) &&& 858993459) + (((Int32.toUInt32 (x0 - (((Int32.toUInt32 x0 >>> (Int32.toUInt32 1 &&& Int32.toUInt32 31)).toInt32) &&& 1431655765)) >>> (Int32.toUInt32 2 &&& Int32.toUInt32 31)).toInt32) &&& 858993459)) + ((Int32.toUInt32 (((x0 - (((Int32.toUInt32 x0 >>> (Int32.toUInt32 1 &&& Int32.toUInt32 31)).toInt32) &&& 1431655765)) &&& 858993459) + (((Int32.toUInt32 (x0 - (((Int32.toUInt32 x0 >>> (Int32.toUInt32 1 &&& Int32.toUInt32 31)).toInt32) &&& 1431655765)) >>> (Int32.toUInt32 2 &&& Int32.toUInt32 31)).toInt32) &&& 858993459)) >>> (Int32.toUInt32 4 &&& Int32.toUInt32 31)).toInt32)) &&& 252645135) + ((Int32.toUInt32 (((((x0 - (((Int32.toUInt32 x0 >>> (Int32.toUInt32 1 &&& Int32.toUInt32 31)).toInt32) &&& 1431655765)) &&& 858993459) + (((Int32.toUInt32 (x0 - (((Int32.toUInt32 x0 >>> (Int32.toUInt32 1 &&& Int32.toUInt32 31)).toInt32) &&& 1431655765)) >>> (Int32.toUInt32 2 &&& Int32.toUInt32 31)).toInt32) &&& 858993459)) + ((Int32.toUInt32 (((x0 - (((Int32.toUInt32 x0 >>> (Int32.toUInt32 1 &&& Int32.toUInt32 31)).toInt32) &&& 1431655765)) &&& 858993459) + (((Int32.toUInt32 (x0 - (((Int32.toUInt32 x0 >>> (Int32.toUInt32 1 &&& Int32.toUInt32 31)).toInt32) &&& 1431655765)) >>> (Int32.toUInt32 2 &&& Int32.toUInt32 31)).toInt32) &&& 858993459)) >>> (Int32.toUInt32 4 &&& Int32.toUInt32 31)).toInt32)) &&& 252645135) >>> (Int32.toUInt32 8 &&& Int32.toUInt32 31)).toInt32)) >>> (Int32.toUInt32 16 &&& Int32.toUInt32 31)).toInt32)))]) (st' := [.int ((((((((x0 - (((Int32.toUInt32 x0 >>> (Int32.toUInt32 1 &&& Int32.toUInt32 31)).toInt32) &&& 1431655765)) &&& 858993459) + (((Int32.toUInt32 (x0 - (((Int32.toUInt32 x0 >>> (Int32.toUInt32 1 &&& Int32.toUInt32 31)).toInt32) &&& 1431655765)) >>> (Int32.toUInt32 2 &&& Int32.toUInt32 31)).toInt32) &&& 858993459)) + ((Int32.toUInt32 (((x0 - (((Int32.toUInt32 x0 >>> (Int32.toUInt32 1 &&& Int32.toUInt32 31)).toInt32) &&& 1431655765)) &&& 858993459) + (((Int32.toUInt32 (x0 - (((Int32.toUInt32 x0 >>> (Int32.toUInt32 1 &&& Int32.toUInt32 31)).toInt32) &&& 1431655765)) >>> (Int32.toUInt32 2 &&& Int32.toUInt32 31)).toInt32) &&& 858993459)) >>> (Int32.toUInt32 4 &&& Int32.toUInt32 31)).toInt32)) &&& 252645135) + ((Int32.toUInt32 (((((x0 - (((Int32.toUInt32 x0 >>> (Int32.toUInt32 1 &&& Int32.toUInt32 31)).toInt32) &&& 1431655765)) &&& 858993459) + (((Int32.toUInt32 (x0 - (((Int32.toUInt32 x0 >>> (Int32.toUInt32 1 &&& Int32.toUInt32 31)).toInt32) &&& 1431655765)) >>> (Int32.toUInt32 2 &&& Int32.toUInt32 31)).toInt32) &&& 858993459)) + ((Int32.toUInt32 (((x0 - (((Int32.toUInt32 x0 >>> (Int32.toUInt32 1 &&& Int32.toUInt32 31)).toInt32) &&& 1431655765)) &&& 858993459) + (((Int32.toUInt32 (x0 - (((Int32.toUInt32 x0 >>> (Int32.toUInt32 1 &&& Int32.toUInt32 31)).toInt32) &&& 1431655765)) >>> (Int32.toUInt32 2 &&& Int32.toUInt32 31)).toInt32) &&& 858993459)) >>> (Int32.toUInt32 4 &&& Int32.toUInt32 31)).toInt32)) &&& 252645135) >>> (Int32.toUInt32 8 &&& Int32.toUInt32 31)).toInt32)) + ((Int32.toUInt32 ((((((x0 - (((Int32.toUInt32 x0 >>> (Int32.toUInt32 1 &&& Int32.toUInt32 31)).toInt32) &&& 1431655765)) &&& 858993459) + (((Int32.toUInt32 (x0 - (((Int32.toUInt32 x0 >>> (Int32.toUInt32 1 &&& Int32.toUInt32 31)).toInt32) &&& 1431655765)) >>> (Int32.toUInt32 2 &&& Int32.toUInt32 31)).toInt32) &&& 858993459)) + ((Int32.toUInt32 (((x0 - (((Int32.toUInt32 x0 >>> (Int32.toUInt32 1 &&& Int32.toUInt32 31)).toInt32) &&& 1431655765)) &&& 858993459) + (((Int32.toUInt32 (x0 - (((Int32.toUInt32 x0 >>> (Int32.toUInt32 1 &&& Int32.toUInt32 31)).toInt32) &&& 1431655765)) >>> (Int32.toUInt32 2 &&& Int32.toUInt32 31)).toInt32) &&& 858993459)) >>> (Int32.toUInt32 4 &&& Int32.toUInt32 31)).toInt32)) &&& 252645135) + ((Int32.toUInt32 (((((x0 - (((Int32.toUInt32 x0 >>> (Int32.toUInt32 1 &&& Int32.toUInt32 31)).toInt32) &&& 1431655765)) &&& 858993459) + (((Int32.toUInt32 (x0 - (((Int32.toUInt32 x0 >>> (Int32.toUInt32 1 &&& Int32.toUInt32 31)).toInt32) &&& 1431655765)) >>> (Int32.toUInt32 2 &&& Int32.toUInt32 31)).toInt32) &&& 858993459)) + ((Int32.toUInt32 (((x0 - (((Int32.toUInt32 x0 >>> (Int32.toUInt32 1 &&& Int32.toUInt32 31)).toInt32) &&& 1431655765)) &&& 858993459) + (((Int32.toUInt32 (x0 - (((Int32.toUInt32 x0 >>> (Int32.toUInt32 1 &&& Int32.toUInt32 31)).toInt32) &&& 1431655765)) >>> (Int32.toUInt32 2 &&& Int32.toUInt32 31)).toInt32) &&& 858993459)) >>> (Int32.toUInt32 4 &&& Int32.toUInt32 31)).toInt32)) &&& 252645135) >>> (Int32.toUInt32 8 &&& Int32.toUInt32 31)).toInt32)) >>> (Int32.toUInt32 16 &&& Int32.toUInt32 31)).toInt32)) &&& 63)]) (w' := w) (g := []) (K := []) (by decide +kernel) rfl rfl rfl rfl jk0 ?_
  cases h
  exact ev_iret (by decide +kernel) rfl rfl rfl rfl

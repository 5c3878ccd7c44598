def f_Model_w3 (x0 : Int32) (x1 : Int32) (x2 : Int32) (w : jW) : Option (Int64 × jW) :=
  some ((((((Int32.toInt64 x0) <<< (Int32.toInt64 8 &&& 63)) ||| (Int32.toInt64 x1)) <<< (Int32.toInt64 8 &&& 63)) ||| (Int32.toInt64 x2)), w)
set_option maxRecDepth 20000 in
theorem e_Model_w3 {l : Launch} {G : jG} (hG : jX G) {x0 : Int32} {x1 : Int32} {x2 : Int32} {w : jW} {z : (Int64 × jW)} (h : f_Model_w3 x0 x1 x2 w = some z) : Ct l G y_Model_w3 d_Model_w3 0 0 [.int x0, .int x1, .int x2] jR0 w (some (.long z.1), jR0, z.2) := by
  rw [f_Model_w3] at h
  refine Ct.of (L := [some (.int x0), some (.int x1), some (.int x2)]) (by decide) (Nat.le_of_ble_eq_true rfl) rfl ?_
  refine ev_seg (o := 10) (nL := 3) (q := 14) (xs := [(.iload_n 0, 1, 0, 0, .null), (.i2l, 1, 0, 0, .null), (.bipush 8, 2, 0, 0, .int 8), (.lshl, 1, 0, 0, .null), (.iload_n 1, 1, 1, 0, .null), (.i2l, 1, 0, 0, .null), (.lor, 1, 0, 0, .null), (.bipush 8, 2, 0, 0, .int 8), (.lshl, 1, 0, 0, .null), (.iload_n 2, 1, 2, 0, .null), (.i2l, 1, 0, 0, .null), (.lor, 1, 0, 0, .null)]) (L' := [some (.int x0), some (.int x1), some (.int x2)]) (st' := [.long (((((Int32.toInt64 x0) <<< (Int32.toInt64 8 &&& 63)) ||| (Int32.toInt64 x1)) <<< (Int32.toInt64 8 &&& 63)) ||| (Int32.toInt64 x2))]) (w' := w) (g := []) (K := []) (by decide +kernel) rfl rfl rfl rfl jk0 ?_
  cases h
  exact ev_lret (by decide +kernel) rfl rfl rfl rfl
def f_Model_w4 (x0 : Int32) (x1 : Int32) (x2 : Int32) (x3 : Int32) (w : jW) : Option (Int64 × jW) :=
  Option.bind (f_Model_w3 x0 x1 x2 w) fun q1 =>
  some (((q1.1 <<< (Int32.toInt64 8 &&& 63)) ||| (Int32.toInt64 x3)), q1.2)
set_option maxRecDepth 20000 in
theorem e_Model_w4 {l : Launch} {G : jG} (hG : jX G) {x0 : Int32} {x1 : Int32} {x2 : Int32} {x3 : Int32} {w : jW} {z : (Int64 × jW)} (h : f_Model_w4 x0 x1 x2 x3 w = some z) : Ct l G y_Model_w4 d_Model_w4 0 0 [.int x0, .int x1, .int x2, .int x3] jR0 w (some (.long z.1), jR0, z.2) := by
  rw [f_Model_w4] at h
  refine Ct.of (L := [some (.int x0), some (.int x1), some (.int x2), some (.int x3)]) (by decide) (Nat.le_of_ble_eq_true rfl) rfl ?_
  refine ev_seg (o := 10) (nL := 4) (q := 3) (xs := [(.iload_n 0, 1, 0, 0, .null), (.iload_n 1, 1, 1, 0, .null), (.iload_n 2, 1, 2, 0, .null)]) (L' := [some (.int x0), some (.int x1), some (.int x2), some (.int x3)]) (st' := [.int x2, .int x1, .int x0]) (w' := w) (g := []) (K := []) (by decide +kernel) rfl rfl rfl rfl jk0 ?_
  obtain ⟨q1, hq1, h⟩ := jbe h
  refine ev_callS (y2 := y_Model_w3) (o := 10) (idx := 131) (d2 := d_Model_w3) (n := 3) (mc2 := 0) (ms2 := 0) (As := [.int x0, .int x1, .int x2]) (st := []) (res2 := (some (.long q1.1), jR0, q1.2)) (by decide +kernel) rfl lk_10_131 mo_Model_w3 ms_Model_w3 ⟨Nat.le_of_ble_eq_true rfl, Nat.le_of_ble_eq_true rfl⟩ rfl rfl (Nat.le_of_ble_eq_true rfl) ⟨Nat.le_refl _, Nat.le_refl _⟩ hG (e_Model_w3 hG hq1) ?_
  refine ev_seg (o := 10) (nL := 4) (q := 12) (xs := [(.bipush 8, 2, 0, 0, .int 8), (.lshl, 1, 0, 0, .null), (.iload_n 3, 1, 3, 0, .null), (.i2l, 1, 0, 0, .null), (.lor, 1, 0, 0, .null)]) (L' := [some (.int x0), some (.int x1), some (.int x2), some (.int x3)]) (st' := [.long ((q1.1 <<< (Int32.toInt64 8 &&& 63)) ||| (Int32.toInt64 x3))]) (w' := q1.2) (g := []) (K := []) (by decide +kernel) rfl rfl rfl rfl jk0 ?_
  cases h
  exact ev_lret (by decide +kernel) rfl rfl rfl rfl
def f_Model_w5 (x0 : Int32) (x1 : Int32) (x2 : Int32) (x3 : Int32) (x4 : Int32) (w : jW) : Option (Int64 × jW) :=
  Option.bind (f_Model_w4 x0 x1 x2 x3 w) fun q1 =>
  some (((q1.1 <<< (Int32.toInt64 8 &&& 63)) ||| (Int32.toInt64 x4)), q1.2)
set_option maxRecDepth 20000 in
theorem e_Model_w5 {l : Launch} {G : jG} (hG : jX G) {x0 : Int32} {x1 : Int32} {x2 : Int32} {x3 : Int32} {x4 : Int32} {w : jW} {z : (Int64 × jW)} (h : f_Model_w5 x0 x1 x2 x3 x4 w = some z) : Ct l G y_Model_w5 d_Model_w5 0 0 [.int x0, .int x1, .int x2, .int x3, .int x4] jR0 w (some (.long z.1), jR0, z.2) := by
  rw [f_Model_w5] at h
  refine Ct.of (L := [some (.int x0), some (.int x1), some (.int x2), some (.int x3), some (.int x4)]) (by decide) (Nat.le_of_ble_eq_true rfl) rfl ?_
  refine ev_seg (o := 10) (nL := 5) (q := 4) (xs := [(.iload_n 0, 1, 0, 0, .null), (.iload_n 1, 1, 1, 0, .null), (.iload_n 2, 1, 2, 0, .null), (.iload_n 3, 1, 3, 0, .null)]) (L' := [some (.int x0), some (.int x1), some (.int x2), some (.int x3), some (.int x4)]) (st' := [.int x3, .int x2, .int x1, .int x0]) (w' := w) (g := []) (K := []) (by decide +kernel) rfl rfl rfl rfl jk0 ?_
  obtain ⟨q1, hq1, h⟩ := jbe h
  refine ev_callS (y2 := y_Model_w4) (o := 10) (idx := 135) (d2 := d_Model_w4) (n := 4) (mc2 := 0) (ms2 := 0) (As := [.int x0, .int x1, .int x2, .int x3]) (st := []) (res2 := (some (.long q1.1), jR0, q1.2)) (by decide +kernel) rfl lk_10_135 mo_Model_w4 ms_Model_w4 ⟨Nat.le_of_ble_eq_true rfl, Nat.le_of_ble_eq_true rfl⟩ rfl rfl (Nat.le_of_ble_eq_true rfl) ⟨Nat.le_refl _, Nat.le_refl _⟩ hG (e_Model_w4 hG hq1) ?_
  refine ev_seg (o := 10) (nL := 5) (q := 14) (xs := [(.bipush 8, 2, 0, 0, .int 8), (.lshl, 1, 0, 0, .null), (.iload 4, 2, 4, 0, .null), (.i2l, 1, 0, 0, .null), (.lor, 1, 0, 0, .null)]) (L' := [some (.int x0), some (.int x1), some (.int x2), some (.int x3), some (.int x4)]) (st' := [.long ((q1.1 <<< (Int32.toInt64 8 &&& 63)) ||| (Int32.toInt64 x4))]) (w' := q1.2) (g := []) (K := []) (by decide +kernel) rfl rfl rfl rfl jk0 ?_
  cases h
  exact ev_lret (by decide +kernel) rfl rfl rfl rfl
def f_Model_w6 (x0 : Int32) (x1 : Int32) (x2 : Int32) (x3 : Int32) (x4 : Int32) (x5 : Int32) (w : jW) : Option (Int64 × jW) :=
  Option.bind (f_Model_w5 x0 x1 x2 x3 x4 w) fun q1 =>
  some (((q1.1 <<< (Int32.toInt64 8 &&& 63)) ||| (Int32.toInt64 x5)), q1.2)
set_option maxRecDepth 20000 in
theorem e_Model_w6 {l : Launch} {G : jG} (hG : jX G) {x0 : Int32} {x1 : Int32} {x2 : Int32} {x3 : Int32} {x4 : Int32} {x5 : Int32} {w : jW} {z : (Int64 × jW)} (h : f_Model_w6 x0 x1 x2 x3 x4 x5 w = some z) : Ct l G y_Model_w6 d_Model_w6 0 0 [.int x0, .int x1, .int x2, .int x3, .int x4, .int x5] jR0 w (some (.long z.1), jR0, z.2) := by
  rw [f_Model_w6] at h
  refine Ct.of (L := [some (.int x0), some (.int x1), some (.int x2), some (.int x3), some (.int x4), some (.int x5)]) (by decide) (Nat.le_of_ble_eq_true rfl) rfl ?_
  refine ev_seg (o := 10) (nL := 6) (q := 6) (xs := [(.iload_n 0, 1, 0, 0, .null), (.iload_n 1, 1, 1, 0, .null), (.iload_n 2, 1, 2, 0, .null), (.iload_n 3, 1, 3, 0, .null), (.iload 4, 2, 4, 0, .null)]) (L' := [some (.int x0), some (.int x1), some (.int x2), some (.int x3), some (.int x4), some (.int x5)]) (st' := [.int x4, .int x3, .int x2, .int x1, .int x0]) (w' := w) (g := []) (K := []) (by decide +kernel) rfl rfl rfl rfl jk0 ?_
  obtain ⟨q1, hq1, h⟩ := jbe h
  refine ev_callS (y2 := y_Model_w5) (o := 10) (idx := 139) (d2 := d_Model_w5) (n := 5) (mc2 := 0) (ms2 := 0) (As := [.int x0, .int x1, .int x2, .int x3, .int x4]) (st := []) (res2 := (some (.long q1.1), jR0, q1.2)) (by decide +kernel) rfl lk_10_139 mo_Model_w5 ms_Model_w5 ⟨Nat.le_of_ble_eq_true rfl, Nat.le_of_ble_eq_true rfl⟩ rfl rfl (Nat.le_of_ble_eq_true rfl) ⟨Nat.le_refl _, Nat.le_refl _⟩ hG (e_Model_w5 hG hq1) ?_
  refine ev_seg (o := 10) (nL := 6) (q := 16) (xs := [(.bipush 8, 2, 0, 0, .int 8), (.lshl, 1, 0, 0, .null), (.iload 5, 2, 5, 0, .null), (.i2l, 1, 0, 0, .null), (.lor, 1, 0, 0, .null)]) (L' := [some (.int x0), some (.int x1), some (.int x2), some (.int x3), some (.int x4), some (.int x5)]) (st' := [.long ((q1.1 <<< (Int32.toInt64 8 &&& 63)) ||| (Int32.toInt64 x5))]) (w' := q1.2) (g := []) (K := []) (by decide +kernel) rfl rfl rfl rfl jk0 ?_
  cases h
  exact ev_lret (by decide +kernel) rfl rfl rfl rfl
def f_Model_isWord (x1 : Int64) (w : jW) : Option (Int32 × jW) :=
  if (w.1 93 9) = 2 then
    if (lg_cmp (w.2 93 11) x1) = 0 then
      some (1, w)
    else
      some (0, w)
  else
    some (0, w)
set_option maxRecDepth 20000 in
theorem e_Model_isWord {l : Launch} {G : jG} (hG : jX G) {x1 : Int64} {w : jW} {z : (Int32 × jW)} (h : f_Model_isWord x1 w = some z) : Ct l G y_Model_isWord d_Model_isWord 0 0 [.ref 93, .long x1] jR0 w (some (.int z.1), jR0, z.2) := by
  rw [f_Model_isWord] at h
  refine Ct.of (L := [some (.ref 93), some (.long x1), none]) (by decide) (Nat.le_of_ble_eq_true rfl) rfl ?_
  refine ev_seg (o := 10) (nL := 3) (q := 5) (xs := [(.aload_n 0, 1, 0, 0, .null), (.getfield 114, 3, 10, 9, .int 0), (.iconst 2, 1, 0, 0, .int 2)]) (L' := [some (.ref 93), some (.long x1), none]) (st' := [.int 2, .int (w.1 93 9)]) (w' := w) (g := []) (K := [(93, 10)]) (by decide +kernel) rfl rfl rfl rfl (jk1 kz_93 jk0) ?_
  refine ev_icmp_ne (off := 16) (tgt := 21) (by decide +kernel) (by decide) (fun c2 => ?_) (fun c2 => ?_)
  · replace h := jneg c2 h
    refine ev_seg (o := 10) (nL := 3) (q := 22) (xs := [(.iconst 0, 1, 0, 0, .int 0)]) (L' := [some (.ref 93), some (.long x1), none]) (st' := [.int 0]) (w' := w) (g := []) (K := []) (by decide +kernel) rfl rfl rfl rfl jk0 ?_
    cases h
    exact ev_zret (by decide +kernel) rfl rfl rfl rfl rfl
  · replace h := jpos c2 h
    refine ev_seg (o := 10) (nL := 3) (q := 14) (xs := [(.aload_n 0, 1, 0, 0, .null), (.getfield 127, 3, 10, 11, .long 0), (.lload_n 1, 1, 1, 0, .null), (.lcmp, 1, 0, 0, .null)]) (L' := [some (.ref 93), some (.long x1), none]) (st' := [.int (lg_cmp (w.2 93 11) x1)]) (w' := w) (g := []) (K := [(93, 10)]) (by decide +kernel) rfl rfl rfl rfl (jk1 kz_93 jk0) ?_
    refine ev_if_ne (off := 7) (tgt := 21) (by decide +kernel) (by decide) (fun c1 => ?_) (fun c1 => ?_)
    · replace h := jneg c1 h
      refine ev_seg (o := 10) (nL := 3) (q := 22) (xs := [(.iconst 0, 1, 0, 0, .int 0)]) (L' := [some (.ref 93), some (.long x1), none]) (st' := [.int 0]) (w' := w) (g := []) (K := []) (by decide +kernel) rfl rfl rfl rfl jk0 ?_
      cases h
      exact ev_zret (by decide +kernel) rfl rfl rfl rfl rfl
    · replace h := jpos c1 h
      refine ev_seg (o := 10) (nL := 3) (q := 22) (xs := [(.iconst 1, 1, 0, 0, .int 1), (.goto 4, 3, 0, 0, .null)]) (L' := [some (.ref 93), some (.long x1), none]) (st' := [.int 1]) (w' := w) (g := []) (K := []) (by decide +kernel) rfl rfl rfl rfl jk0 ?_
      cases h
      exact ev_zret (by decide +kernel) rfl rfl rfl rfl rfl
def f_Model_need (x1 : Int64) (w : jW) : Option (Int32 × jW) :=
  Option.bind (f_Model_isWord x1 w) fun q1 =>
  if q1.1 = 0 then
    some (1, q1.2)
  else
    Option.bind (f_Model_nextToken q1.2) fun q2 =>
    some (0, q2)
set_option maxRecDepth 20000 in
theorem e_Model_need {l : Launch} {G : jG} (hG : jX G) {x1 : Int64} {w : jW} {z : (Int32 × jW)} (h : f_Model_need x1 w = some z) : Ct l G y_Model_need d_Model_need 0 0 [.ref 93, .long x1] jR0 w (some (.int z.1), jR0, z.2) := by
  rw [f_Model_need] at h
  refine Ct.of (L := [some (.ref 93), some (.long x1), none]) (by decide) (Nat.le_of_ble_eq_true rfl) rfl ?_
  refine ev_seg (o := 10) (nL := 3) (q := 2) (xs := [(.aload_n 0, 1, 0, 0, .null), (.lload_n 1, 1, 1, 0, .null)]) (L' := [some (.ref 93), some (.long x1), none]) (st' := [.long x1, .ref 93]) (w' := w) (g := []) (K := []) (by decide +kernel) rfl rfl rfl rfl jk0 ?_
  obtain ⟨q1, hq1, h⟩ := jbe h
  refine ev_callV (ci := 10) (a := 93) (y2 := y_Model_isWord) (o := 10) (idx := 143) (d2 := d_Model_isWord) (n := 1) (mc2 := 0) (ms2 := 0) (As := [.long x1]) (st := []) (res2 := (some (.int q1.1), jR0, q1.2)) (by decide +kernel) rfl lk_10_143 mo_Model_isWord mv_Model_isWord ⟨Nat.le_of_ble_eq_true rfl, Nat.le_of_ble_eq_true rfl⟩ rfl rfl kz_93 (by decide) rfl (Nat.le_of_ble_eq_true rfl) ⟨Nat.le_refl _, Nat.le_refl _⟩ hG (e_Model_isWord hG hq1) ?_
  refine ev_if_ne (off := 5) (tgt := 10) (by decide +kernel) (by decide) (fun c3 => ?_) (fun c3 => ?_)
  · replace h := jneg c3 h
    refine ev_seg (o := 10) (nL := 3) (q := 11) (xs := [(.aload_n 0, 1, 0, 0, .null)]) (L' := [some (.ref 93), some (.long x1), none]) (st' := [.ref 93]) (w' := q1.2) (g := []) (K := []) (by decide +kernel) rfl rfl rfl rfl jk0 ?_
    obtain ⟨q2, hq2, h⟩ := jbe h
    refine ev_callV (ci := 10) (a := 93) (y2 := y_Model_nextToken) (o := 10) (idx := 147) (d2 := d_Model_nextToken) (n := 0) (mc2 := 0) (ms2 := 0) (As := []) (st := []) (res2 := (none, jR0, q2)) (by decide +kernel) rfl lk_10_147 mo_Model_nextToken mv_Model_nextToken ⟨Nat.le_of_ble_eq_true rfl, Nat.le_of_ble_eq_true rfl⟩ rfl rfl kz_93 (by decide) rfl (Nat.le_of_ble_eq_true rfl) ⟨Nat.le_refl _, Nat.le_refl _⟩ hG (e_Model_nextToken hG hq2) ?_
    refine ev_seg (o := 10) (nL := 3) (q := 15) (xs := [(.iconst 0, 1, 0, 0, .int 0)]) (L' := [some (.ref 93), some (.long x1), none]) (st' := [.int 0]) (w' := q2) (g := []) (K := []) (by decide +kernel) rfl rfl rfl rfl jk0 ?_
    cases h
    exact ev_iret (by decide +kernel) rfl rfl rfl rfl
  · replace h := jpos c3 h
    refine ev_seg (o := 10) (nL := 3) (q := 9) (xs := [(.iconst 1, 1, 0, 0, .int 1)]) (L' := [some (.ref 93), some (.long x1), none]) (st' := [.int 1]) (w' := q1.2) (g := []) (K := []) (by decide +kernel) rfl rfl rfl rfl jk0 ?_
    cases h
    exact ev_iret (by decide +kernel) rfl rfl rfl rfl
def f_Model_take (x1 : Int32) (x2 : Int32) (x3 : Int32) (w : jW) : Option (Int32 × jW) :=
  if (w.1 93 9) = 1 then
    Option.bind (f_Model_isIn (w.1 93 10) x1 x2 w) fun q1 =>
    if q1.1 = 0 then
      some (2, q1.2)
    else
      if jal [jin x3 21000] = true then
      jlw ((jup q1.2.1 94 (Int32.toNatClampNeg x3) (q1.2.1 93 10)), q1.2.2) fun w3 =>
      Option.bind (f_Model_nextToken w3) fun q4 =>
      some (0, q4)
      else none
  else
    some (1, w)
set_option maxRecDepth 20000 in
theorem e_Model_take {l : Launch} {G : jG} (hG : jX G) {x1 : Int32} {x2 : Int32} {x3 : Int32} {w : jW} {z : (Int32 × jW)} (h : f_Model_take x1 x2 x3 w = some z) : Ct l G y_Model_take d_Model_take 0 0 [.ref 93, .int x1, .int x2, .int x3] jR0 w (some (.int z.1), jR0, z.2) := by
  rw [f_Model_take] at h
  refine Ct.of (L := [some (.ref 93), some (.int x1), some (.int x2), some (.int x3)]) (by decide) (Nat.le_of_ble_eq_true rfl) rfl ?_
  refine ev_seg (o := 10) (nL := 4) (q := 5) (xs := [(.aload_n 0, 1, 0, 0, .null), (.getfield 114, 3, 10, 9, .int 0), (.iconst 1, 1, 0, 0, .int 1)]) (L' := [some (.ref 93), some (.int x1), some (.int x2), some (.int x3)]) (st' := [.int 1, .int (w.1 93 9)]) (w' := w) (g := []) (K := [(93, 10)]) (by decide +kernel) rfl rfl rfl rfl (jk1 kz_93 jk0) ?_
  refine ev_icmp_eq (off := 5) (tgt := 10) (by decide +kernel) (by decide) (fun c6 => ?_) (fun c6 => ?_)
  · replace h := jpos c6 h
    refine ev_seg (o := 10) (nL := 4) (q := 16) (xs := [(.aload_n 0, 1, 0, 0, .null), (.getfield 120, 3, 10, 10, .int 0), (.iload_n 1, 1, 1, 0, .null), (.iload_n 2, 1, 2, 0, .null)]) (L' := [some (.ref 93), some (.int x1), some (.int x2), some (.int x3)]) (st' := [.int x2, .int x1, .int (w.1 93 10)]) (w' := w) (g := []) (K := [(93, 10)]) (by decide +kernel) rfl rfl rfl rfl (jk1 kz_93 jk0) ?_
    obtain ⟨q1, hq1, h⟩ := jbe h
    refine ev_callS (y2 := y_Model_isIn) (o := 10) (idx := 46) (d2 := d_Model_isIn) (n := 3) (mc2 := 0) (ms2 := 0) (As := [.int (w.1 93 10), .int x1, .int x2]) (st := []) (res2 := (some (.int q1.1), jR0, q1.2)) (by decide +kernel) rfl lk_10_46 mo_Model_isIn ms_Model_isIn ⟨Nat.le_of_ble_eq_true rfl, Nat.le_of_ble_eq_true rfl⟩ rfl rfl (Nat.le_of_ble_eq_true rfl) ⟨Nat.le_refl _, Nat.le_refl _⟩ hG (e_Model_isIn hG hq1) ?_
    refine ev_if_ne (off := 5) (tgt := 24) (by decide +kernel) (by decide) (fun c5 => ?_) (fun c5 => ?_)
    · replace h := jneg c5 h
      obtain ⟨hg2, h⟩ := jgd h
      refine ev_seg (o := 10) (nL := 4) (q := 34) (xs := [(.aload_n 0, 1, 0, 0, .null), (.getfield 7, 3, 10, 0, .ref 20), (.iload_n 3, 1, 3, 0, .null), (.aload_n 0, 1, 0, 0, .null), (.getfield 120, 3, 10, 10, .int 0), (.iastore, 1, 0, 0, .null)]) (L' := [some (.ref 93), some (.int x1), some (.int x2), some (.int x3)]) (st' := []) (w' := ((jup q1.2.1 94 (Int32.toNatClampNeg x3) (q1.2.1 93 10)), q1.2.2)) (g := [jin x3 21000]) (K := [(94, 20), (93, 10), (94, 20), (93, 10)]) (by decide +kernel) rfl rfl rfl hg2 (jk1 kz_94 (jk1 kz_93 (jk1 kz_94 (jk1 kz_93 jk0)))) ?_
      refine jlw_c (P := fun w3 => Ev l G (jrm d_Model_take 0 0) y_Model_take (some (.int z.1), jR0, z.2) 0 0 0 0 34 [some (.ref 93), some (.int x1), some (.int x2), some (.int x3)] [] jR0 w3) h fun w3 h => ?_
      refine ev_seg (o := 10) (nL := 4) (q := 35) (xs := [(.aload_n 0, 1, 0, 0, .null)]) (L' := [some (.ref 93), some (.int x1), some (.int x2), some (.int x3)]) (st' := [.ref 93]) (w' := w3) (g := []) (K := []) (by decide +kernel) rfl rfl rfl rfl jk0 ?_
      obtain ⟨q4, hq4, h⟩ := jbe h
      refine ev_callV (ci := 10) (a := 93) (y2 := y_Model_nextToken) (o := 10) (idx := 147) (d2 := d_Model_nextToken) (n := 0) (mc2 := 0) (ms2 := 0) (As := []) (st := []) (res2 := (none, jR0, q4)) (by decide +kernel) rfl lk_10_147 mo_Model_nextToken mv_Model_nextToken ⟨Nat.le_of_ble_eq_true rfl, Nat.le_of_ble_eq_true rfl⟩ rfl rfl kz_93 (by decide) rfl (Nat.le_of_ble_eq_true rfl) ⟨Nat.le_refl _, Nat.le_refl _⟩ hG (e_Model_nextToken hG hq4) ?_
      refine ev_seg (o := 10) (nL := 4) (q := 39) (xs := [(.iconst 0, 1, 0, 0, .int 0)]) (L' := [some (.ref 93), some (.int x1), some (.int x2), some (.int x3)]) (st' := [.int 0]) (w' := q4) (g := []) (K := []) (by decide +kernel) rfl rfl rfl rfl jk0 ?_
      cases h
      exact ev_iret (by decide +kernel) rfl rfl rfl rfl
    · replace h := jpos c5 h
      refine ev_seg (o := 10) (nL := 4) (q := 23) (xs := [(.iconst 2, 1, 0, 0, .int 2)]) (L' := [some (.ref 93), some (.int x1), some (.int x2), some (.int x3)]) (st' := [.int 2]) (w' := q1.2) (g := []) (K := []) (by decide +kernel) rfl rfl rfl rfl jk0 ?_
      cases h
      exact ev_iret (by decide +kernel) rfl rfl rfl rfl
  · replace h := jneg c6 h
    refine ev_seg (o := 10) (nL := 4) (q := 9) (xs := [(.iconst 1, 1, 0, 0, .int 1)]) (L' := [some (.ref 93), some (.int x1), some (.int x2), some (.int x3)]) (st' := [.int 1]) (w' := w) (g := []) (K := []) (by decide +kernel) rfl rfl rfl rfl jk0 ?_
    cases h
    exact ev_iret (by decide +kernel) rfl rfl rfl rfl
def f_Model_emit (x1 : Int32) (x2 : Int32) (w : jW) : Option jW :=
  if jal [jin (((w.1 93 12) + 140) + (2 * (w.1 93 14))) 21000] = true then
  jlw ((jup w.1 94 (Int32.toNatClampNeg (((w.1 93 12) + 140) + (2 * (w.1 93 14)))) x1), w.2) fun w2 =>
  if jal [jin ((((w2.1 93 12) + 140) + (2 * (w2.1 93 14))) + 1) 21000] = true then
  jlw ((jup w2.1 94 (Int32.toNatClampNeg ((((w2.1 93 12) + 140) + (2 * (w2.1 93 14))) + 1)) x2), w2.2) fun w4 =>
  jlw ((jup w4.1 93 14 ((w4.1 93 14) + 1)), w4.2) fun w5 =>
  some w5
  else none else none
set_option maxRecDepth 20000 in
theorem e_Model_emit {l : Launch} {G : jG} (hG : jX G) {x1 : Int32} {x2 : Int32} {w : jW} {z : jW} (h : f_Model_emit x1 x2 w = some z) : Ct l G y_Model_emit d_Model_emit 0 0 [.ref 93, .int x1, .int x2] jR0 w (none, jR0, z) := by
  rw [f_Model_emit] at h
  refine Ct.of (L := [some (.ref 93), some (.int x1), some (.int x2)]) (by decide) (Nat.le_of_ble_eq_true rfl) rfl ?_
  obtain ⟨hg1, h⟩ := jgd h
  refine ev_seg (o := 10) (nL := 3) (q := 21) (xs := [(.aload_n 0, 1, 0, 0, .null), (.getfield 7, 3, 10, 0, .ref 20), (.aload_n 0, 1, 0, 0, .null), (.getfield 150, 3, 10, 12, .int 0), (.sipush 140, 3, 0, 0, .int 140), (.iadd, 1, 0, 0, .null), (.iconst 2, 1, 0, 0, .int 2), (.aload_n 0, 1, 0, 0, .null), (.getfield 153, 3, 10, 14, .int 0), (.imul, 1, 0, 0, .null), (.iadd, 1, 0, 0, .null), (.iload_n 1, 1, 1, 0, .null), (.iastore, 1, 0, 0, .null)]) (L' := [some (.ref 93), some (.int x1), some (.int x2)]) (st' := []) (w' := ((jup w.1 94 (Int32.toNatClampNeg (((w.1 93 12) + 140) + (2 * (w.1 93 14)))) x1), w.2)) (g := [jin (((w.1 93 12) + 140) + (2 * (w.1 93 14))) 21000]) (K := [(94, 20), (93, 10), (93, 10), (94, 20), (93, 10)]) (by decide +kernel) rfl rfl rfl hg1 (jk1 kz_94 (jk1 kz_93 (jk1 kz_93 (jk1 kz_94 (jk1 kz_93 jk0))))) ?_
  refine jlw_c (P := fun w2 => Ev l G (jrm d_Model_emit 0 0) y_Model_emit (none, jR0, z) 0 0 0 0 21 [some (.ref 93), some (.int x1), some (.int x2)] [] jR0 w2) h fun w2 h => ?_
  obtain ⟨hg3, h⟩ := jgd h
  refine ev_seg (o := 10) (nL := 3) (q := 44) (xs := [(.aload_n 0, 1, 0, 0, .null), (.getfield 7, 3, 10, 0, .ref 20), (.aload_n 0, 1, 0, 0, .null), (.getfield 150, 3, 10, 12, .int 0), (.sipush 140, 3, 0, 0, .int 140), (.iadd, 1, 0, 0, .null), (.iconst 2, 1, 0, 0, .int 2), (.aload_n 0, 1, 0, 0, .null), (.getfield 153, 3, 10, 14, .int 0), (.imul, 1, 0, 0, .null), (.iadd, 1, 0, 0, .null), (.iconst 1, 1, 0, 0, .int 1), (.iadd, 1, 0, 0, .null), (.iload_n 2, 1, 2, 0, .null), (.iastore, 1, 0, 0, .null)]) (L' := [some (.ref 93), some (.int x1), some (.int x2)]) (st' := []) (w' := ((jup w2.1 94 (Int32.toNatClampNeg ((((w2.1 93 12) + 140) + (2 * (w2.1 93 14))) + 1)) x2), w2.2)) (g := [jin ((((w2.1 93 12) + 140) + (2 * (w2.1 93 14))) + 1) 21000]) (K := [(94, 20), (93, 10), (93, 10), (94, 20), (93, 10)]) (by decide +kernel) rfl rfl rfl hg3 (jk1 kz_94 (jk1 kz_93 (jk1 kz_93 (jk1 kz_94 (jk1 kz_93 jk0))))) ?_
  refine jlw_c (P := fun w4 => Ev l G (jrm d_Model_emit 0 0) y_Model_emit (none, jR0, z) 0 0 0 0 44 [some (.ref 93), some (.int x1), some (.int x2)] [] jR0 w4) h fun w4 h => ?_
  refine ev_seg (o := 10) (nL := 3) (q := 54) (xs := [(.aload_n 0, 1, 0, 0, .null), (.dup, 1, 0, 0, .null), (.getfield 153, 3, 10, 14, .int 0), (.iconst 1, 1, 0, 0, .int 1), (.iadd, 1, 0, 0, .null), (.putfield 153, 3, 10, 14, .int 0)]) (L' := [some (.ref 93), some (.int x1), some (.int x2)]) (st' := []) (w' := ((jup w4.1 93 14 ((w4.1 93 14) + 1)), w4.2)) (g := []) (K := [(93, 10), (93, 10)]) (by decide +kernel) rfl rfl rfl rfl (jk1 kz_93 (jk1 kz_93 jk0)) ?_
  refine jlw_c (P := fun w5 => Ev l G (jrm d_Model_emit 0 0) y_Model_emit (none, jR0, z) 0 0 0 0 54 [some (.ref 93), some (.int x1), some (.int x2)] [] jR0 w5) h fun w5 h => ?_
  cases h
  exact ev_vret (by decide +kernel) rfl rfl rfl rfl
def f_Model_push (x1 : Int32) (w : jW) : Option jW :=
  if jal [jin (w.1 93 16) 160] = true then
  jlw ((jup w.1 98 (Int32.toNatClampNeg (w.1 93 16)) x1), w.2) fun w2 =>
  jlw ((jup w2.1 93 16 ((w2.1 93 16) + 1)), w2.2) fun w3 =>
  some w3
  else none
set_option maxRecDepth 20000 in
theorem e_Model_push {l : Launch} {G : jG} (hG : jX G) {x1 : Int32} {w : jW} {z : jW} (h : f_Model_push x1 w = some z) : Ct l G y_Model_push d_Model_push 0 0 [.ref 93, .int x1] jR0 w (none, jR0, z) := by
  rw [f_Model_push] at h
  refine Ct.of (L := [some (.ref 93), some (.int x1)]) (by decide) (Nat.le_of_ble_eq_true rfl) rfl ?_
  obtain ⟨hg1, h⟩ := jgd h
  refine ev_seg (o := 10) (nL := 2) (q := 10) (xs := [(.aload_n 0, 1, 0, 0, .null), (.getfield 29, 3, 10, 17, .ref 20), (.aload_n 0, 1, 0, 0, .null), (.getfield 156, 3, 10, 16, .int 0), (.iload_n 1, 1, 1, 0, .null), (.iastore, 1, 0, 0, .null)]) (L' := [some (.ref 93), some (.int x1)]) (st' := []) (w' := ((jup w.1 98 (Int32.toNatClampNeg (w.1 93 16)) x1), w.2)) (g := [jin (w.1 93 16) 160]) (K := [(98, 20), (93, 10), (98, 20), (93, 10)]) (by decide +kernel) rfl rfl rfl hg1 (jk1 kz_98 (jk1 kz_93 (jk1 kz_98 (jk1 kz_93 jk0)))) ?_
  refine jlw_c (P := fun w2 => Ev l G (jrm d_Model_push 0 0) y_Model_push (none, jR0, z) 0 0 0 0 10 [some (.ref 93), some (.int x1)] [] jR0 w2) h fun w2 h => ?_
  refine ev_seg (o := 10) (nL := 2) (q := 20) (xs := [(.aload_n 0, 1, 0, 0, .null), (.dup, 1, 0, 0, .null), (.getfield 156, 3, 10, 16, .int 0), (.iconst 1, 1, 0, 0, .int 1), (.iadd, 1, 0, 0, .null), (.putfield 156, 3, 10, 16, .int 0)]) (L' := [some (.ref 93), some (.int x1)]) (st' := []) (w' := ((jup w2.1 93 16 ((w2.1 93 16) + 1)), w2.2)) (g := []) (K := [(93, 10), (93, 10)]) (by decide +kernel) rfl rfl rfl rfl (jk1 kz_93 (jk1 kz_93 jk0)) ?_
  refine jlw_c (P := fun w3 => Ev l G (jrm d_Model_push 0 0) y_Model_push (none, jR0, z) 0 0 0 0 20 [some (.ref 93), some (.int x1)] [] jR0 w3) h fun w3 h => ?_
  cases h
  exact ev_vret (by decide +kernel) rfl rfl rfl rfl
def f_Model_whole1_h0 : Nat → jW → Option jW
  | 0, _ => none
  | n + 1, w =>
  if (w.1 93 16) ≤ 0 then
    some w
  else
    if jal [jin ((w.1 93 16) - 1) 160] = true then
    if (w.1 98 (Int32.toNatClampNeg ((w.1 93 16) - 1))) = 30 then
      jlw ((jup w.1 93 16 ((w.1 93 16) - 1)), w.2) fun w2 =>
      jlw ((jup w2.1 93 15 ((w2.1 93 15) - 1)), w2.2) fun w3 =>
      Option.bind (f_Model_emit 30 0 w3) fun q4 =>
      (f_Model_whole1_h0 n) q4
    else
      some w
    else none
set_option maxRecDepth 20000 in
theorem t_Model_whole1_h0 {l : Launch} {G : jG} (hG : jX G) : ∀ (n : Nat) (w : jW) (z : jW), f_Model_whole1_h0 n w = some z → Ev l G (jrm d_Model_whole1 0 0) y_Model_whole1 (none, jR0, z) 0 0 0 0 0 [some (.ref 93)] [] jR0 w := by
  intro n
  induction n with
  | zero => intro w z h; simp only [f_Model_whole1_h0] at h; cases h
  | succ n ih =>
    intro w z h
    rw [f_Model_whole1_h0] at h
    refine ev_seg (o := 10) (nL := 1) (q := 4) (xs := [(.aload_n 0, 1, 0, 0, .null), (.getfield 156, 3, 10, 16, .int 0)]) (L' := [some (.ref 93)]) (st' := [.int (w.1 93 16)]) (w' := w) (g := []) (K := [(93, 10)]) (by decide +kernel) rfl rfl rfl rfl (jk1 kz_93 jk0) ?_
    refine ev_if_le (off := 49) (tgt := 53) (by decide +kernel) (by decide) (fun c6 => ?_) (fun c6 => ?_)
    · replace h := jpos c6 h
      cases h
      exact ev_vret (by decide +kernel) rfl rfl rfl rfl
    · replace h := jneg c6 h
      obtain ⟨hg1, h⟩ := jgd h
      refine ev_seg (o := 10) (nL := 1) (q := 20) (xs := [(.aload_n 0, 1, 0, 0, .null), (.getfield 29, 3, 10, 17, .ref 20), (.aload_n 0, 1, 0, 0, .null), (.getfield 156, 3, 10, 16, .int 0), (.iconst 1, 1, 0, 0, .int 1), (.isub, 1, 0, 0, .null), (.iaload, 1, 0, 0, .null), (.bipush 30, 2, 0, 0, .int 30)]) (L' := [some (.ref 93)]) (st' := [.int 30, .int (w.1 98 (Int32.toNatClampNeg ((w.1 93 16) - 1)))]) (w' := w) (g := [jin ((w.1 93 16) - 1) 160]) (K := [(98, 20), (93, 10), (98, 20), (93, 10)]) (by decide +kernel) rfl rfl rfl hg1 (jk1 kz_98 (jk1 kz_93 (jk1 kz_98 (jk1 kz_93 jk0)))) ?_
      refine ev_icmp_ne (off := 33) (tgt := 53) (by decide +kernel) (by decide) (fun c5 => ?_) (fun c5 => ?_)
      · replace h := jneg c5 h
        cases h
        exact ev_vret (by decide +kernel) rfl rfl rfl rfl
      · replace h := jpos c5 h
        refine ev_seg (o := 10) (nL := 1) (q := 33) (xs := [(.aload_n 0, 1, 0, 0, .null), (.dup, 1, 0, 0, .null), (.getfield 156, 3, 10, 16, .int 0), (.iconst 1, 1, 0, 0, .int 1), (.isub, 1, 0, 0, .null), (.putfield 156, 3, 10, 16, .int 0)]) (L' := [some (.ref 93)]) (st' := []) (w' := ((jup w.1 93 16 ((w.1 93 16) - 1)), w.2)) (g := []) (K := [(93, 10), (93, 10)]) (by decide +kernel) rfl rfl rfl rfl (jk1 kz_93 (jk1 kz_93 jk0)) ?_
        refine jlw_c (P := fun w2 => Ev l G (jrm d_Model_whole1 0 0) y_Model_whole1 (none, jR0, z) 0 0 0 0 33 [some (.ref 93)] [] jR0 w2) h fun w2 h => ?_
        refine ev_seg (o := 10) (nL := 1) (q := 43) (xs := [(.aload_n 0, 1, 0, 0, .null), (.dup, 1, 0, 0, .null), (.getfield 159, 3, 10, 15, .int 0), (.iconst 1, 1, 0, 0, .int 1), (.isub, 1, 0, 0, .null), (.putfield 159, 3, 10, 15, .int 0)]) (L' := [some (.ref 93)]) (st' := []) (w' := ((jup w2.1 93 15 ((w2.1 93 15) - 1)), w2.2)) (g := []) (K := [(93, 10), (93, 10)]) (by decide +kernel) rfl rfl rfl rfl (jk1 kz_93 (jk1 kz_93 jk0)) ?_
        refine jlw_c (P := fun w3 => Ev l G (jrm d_Model_whole1 0 0) y_Model_whole1 (none, jR0, z) 0 0 0 0 43 [some (.ref 93)] [] jR0 w3) h fun w3 h => ?_
        refine ev_seg (o := 10) (nL := 1) (q := 47) (xs := [(.aload_n 0, 1, 0, 0, .null), (.bipush 30, 2, 0, 0, .int 30), (.iconst 0, 1, 0, 0, .int 0)]) (L' := [some (.ref 93)]) (st' := [.int 0, .int 30, .ref 93]) (w' := w3) (g := []) (K := []) (by decide +kernel) rfl rfl rfl rfl jk0 ?_
        obtain ⟨q4, hq4, h⟩ := jbe h
        refine ev_callV (ci := 10) (a := 93) (y2 := y_Model_emit) (o := 10) (idx := 162) (d2 := d_Model_emit) (n := 2) (mc2 := 0) (ms2 := 0) (As := [.int 30, .int 0]) (st := []) (res2 := (none, jR0, q4)) (by decide +kernel) rfl lk_10_162 mo_Model_emit mv_Model_emit ⟨Nat.le_of_ble_eq_true rfl, Nat.le_of_ble_eq_true rfl⟩ rfl rfl kz_93 (by decide) rfl (Nat.le_of_ble_eq_true rfl) ⟨Nat.le_refl _, Nat.le_refl _⟩ hG (e_Model_emit hG hq4) ?_
        refine ev_seg (o := 10) (nL := 1) (q := 0) (xs := [(.goto (-50), 3, 0, 0, .null)]) (L' := [some (.ref 93)]) (st' := []) (w' := q4) (g := []) (K := []) (by decide +kernel) rfl rfl rfl rfl jk0 ?_
        refine ev_mask [true] ?_
        exact ih _ _ h
def f_Model_whole1 (w : jW) : Option jW :=
  f_Model_whole1_h0 jfu w
set_option maxRecDepth 20000 in
theorem e_Model_whole1 {l : Launch} {G : jG} (hG : jX G) {w : jW} {z : jW} (h : f_Model_whole1 w = some z) : Ct l G y_Model_whole1 d_Model_whole1 0 0 [.ref 93] jR0 w (none, jR0, z) := by
  rw [f_Model_whole1] at h
  refine Ct.of (L := [some (.ref 93)]) (by decide) (Nat.le_of_ble_eq_true rfl) rfl ?_
  refine ev_mask [true] ?_
  exact t_Model_whole1_h0 hG jfu _ _ h
def f_Model_settle_h0 : Nat → Int32 → jW → Option jW
  | 0, _, _ => none
  | n + 1, x1, w =>
  if (w.1 93 16) ≤ 0 then
    some w
  else
    if jal [jin ((w.1 93 16) - 1) 160] = true then
    Option.bind (f_Model_isIn (w.1 98 (Int32.toNatClampNeg ((w.1 93 16) - 1))) x1 22 w) fun q2 =>
    if q2.1 = 0 then
      some q2.2
    else
      jlw ((jup q2.2.1 93 16 ((q2.2.1 93 16) - 1)), q2.2.2) fun w3 =>
      if jal [jin (w3.1 93 16) 160] = true then
      Option.bind (f_Model_emit (w3.1 98 (Int32.toNatClampNeg (w3.1 93 16))) 0 w3) fun q5 =>
      (f_Model_settle_h0 n) x1 q5
      else none
    else none
set_option maxRecDepth 20000 in
theorem t_Model_settle_h0 {l : Launch} {G : jG} (hG : jX G) : ∀ (n : Nat) (x1 : Int32) (w : jW) (z : jW), f_Model_settle_h0 n x1 w = some z → Ev l G (jrm d_Model_settle 0 0) y_Model_settle (none, jR0, z) 0 0 0 0 0 [some (.ref 93), some (.int x1)] [] jR0 w := by
  intro n
  induction n with
  | zero => intro x1 w z h; simp only [f_Model_settle_h0] at h; cases h
  | succ n ih =>
    intro x1 w z h
    rw [f_Model_settle_h0] at h
    refine ev_seg (o := 10) (nL := 2) (q := 4) (xs := [(.aload_n 0, 1, 0, 0, .null), (.getfield 156, 3, 10, 16, .int 0)]) (L' := [some (.ref 93), some (.int x1)]) (st' := [.int (w.1 93 16)]) (w' := w) (g := []) (K := [(93, 10)]) (by decide +kernel) rfl rfl rfl rfl (jk1 kz_93 jk0) ?_
    refine ev_if_le (off := 50) (tgt := 54) (by decide +kernel) (by decide) (fun c7 => ?_) (fun c7 => ?_)
    · replace h := jpos c7 h
      cases h
      exact ev_vret (by decide +kernel) rfl rfl rfl rfl
    · replace h := jneg c7 h
      obtain ⟨hg1, h⟩ := jgd h
      refine ev_seg (o := 10) (nL := 2) (q := 21) (xs := [(.aload_n 0, 1, 0, 0, .null), (.getfield 29, 3, 10, 17, .ref 20), (.aload_n 0, 1, 0, 0, .null), (.getfield 156, 3, 10, 16, .int 0), (.iconst 1, 1, 0, 0, .int 1), (.isub, 1, 0, 0, .null), (.iaload, 1, 0, 0, .null), (.iload_n 1, 1, 1, 0, .null), (.bipush 22, 2, 0, 0, .int 22)]) (L' := [some (.ref 93), some (.int x1)]) (st' := [.int 22, .int x1, .int (w.1 98 (Int32.toNatClampNeg ((w.1 93 16) - 1)))]) (w' := w) (g := [jin ((w.1 93 16) - 1) 160]) (K := [(98, 20), (93, 10), (98, 20), (93, 10)]) (by decide +kernel) rfl rfl rfl hg1 (jk1 kz_98 (jk1 kz_93 (jk1 kz_98 (jk1 kz_93 jk0)))) ?_
      obtain ⟨q2, hq2, h⟩ := jbe h
      refine ev_callS (y2 := y_Model_isIn) (o := 10) (idx := 46) (d2 := d_Model_isIn) (n := 3) (mc2 := 0) (ms2 := 0) (As := [.int (w.1 98 (Int32.toNatClampNeg ((w.1 93 16) - 1))), .int x1, .int 22]) (st := []) (res2 := (some (.int q2.1), jR0, q2.2)) (by decide +kernel) rfl lk_10_46 mo_Model_isIn ms_Model_isIn ⟨Nat.le_of_ble_eq_true rfl, Nat.le_of_ble_eq_true rfl⟩ rfl rfl (Nat.le_of_ble_eq_true rfl) ⟨Nat.le_refl _, Nat.le_refl _⟩ hG (e_Model_isIn hG hq2) ?_
      refine ev_if_eq (off := 30) (tgt := 54) (by decide +kernel) (by decide) (fun c6 => ?_) (fun c6 => ?_)
      · replace h := jpos c6 h
        cases h
        exact ev_vret (by decide +kernel) rfl rfl rfl rfl
      · replace h := jneg c6 h
        refine ev_seg (o := 10) (nL := 2) (q := 37) (xs := [(.aload_n 0, 1, 0, 0, .null), (.dup, 1, 0, 0, .null), (.getfield 156, 3, 10, 16, .int 0), (.iconst 1, 1, 0, 0, .int 1), (.isub, 1, 0, 0, .null), (.putfield 156, 3, 10, 16, .int 0)]) (L' := [some (.ref 93), some (.int x1)]) (st' := []) (w' := ((jup q2.2.1 93 16 ((q2.2.1 93 16) - 1)), q2.2.2)) (g := []) (K := [(93, 10), (93, 10)]) (by decide +kernel) rfl rfl rfl rfl (jk1 kz_93 (jk1 kz_93 jk0)) ?_
        refine jlw_c (P := fun w3 => Ev l G (jrm d_Model_settle 0 0) y_Model_settle (none, jR0, z) 0 0 0 0 37 [some (.ref 93), some (.int x1)] [] jR0 w3) h fun w3 h => ?_
        obtain ⟨hg4, h⟩ := jgd h
        refine ev_seg (o := 10) (nL := 2) (q := 48) (xs := [(.aload_n 0, 1, 0, 0, .null), (.aload_n 0, 1, 0, 0, .null), (.getfield 29, 3, 10, 17, .ref 20), (.aload_n 0, 1, 0, 0, .null), (.getfield 156, 3, 10, 16, .int 0), (.iaload, 1, 0, 0, .null), (.iconst 0, 1, 0, 0, .int 0)]) (L' := [some (.ref 93), some (.int x1)]) (st' := [.int 0, .int (w3.1 98 (Int32.toNatClampNeg (w3.1 93 16))), .ref 93]) (w' := w3) (g := [jin (w3.1 93 16) 160]) (K := [(98, 20), (93, 10), (98, 20), (93, 10)]) (by decide +kernel) rfl rfl rfl hg4 (jk1 kz_98 (jk1 kz_93 (jk1 kz_98 (jk1 kz_93 jk0)))) ?_
        obtain ⟨q5, hq5, h⟩ := jbe h
        refine ev_callV (ci := 10) (a := 93) (y2 := y_Model_emit) (o := 10) (idx := 162) (d2 := d_Model_emit) (n := 2) (mc2 := 0) (ms2 := 0) (As := [.int (w3.1 98 (Int32.toNatClampNeg (w3.1 93 16))), .int 0]) (st := []) (res2 := (none, jR0, q5)) (by decide +kernel) rfl lk_10_162 mo_Model_emit mv_Model_emit ⟨Nat.le_of_ble_eq_true rfl, Nat.le_of_ble_eq_true rfl⟩ rfl rfl kz_93 (by decide) rfl (Nat.le_of_ble_eq_true rfl) ⟨Nat.le_refl _, Nat.le_refl _⟩ hG (e_Model_emit hG hq5) ?_
        refine ev_seg (o := 10) (nL := 2) (q := 0) (xs := [(.goto (-51), 3, 0, 0, .null)]) (L' := [some (.ref 93), some (.int x1)]) (st' := []) (w' := q5) (g := []) (K := []) (by decide +kernel) rfl rfl rfl rfl jk0 ?_
        refine ev_mask [true, true] ?_
        exact ih _ _ _ h
def f_Model_settle (x1 : Int32) (w : jW) : Option jW :=
  f_Model_settle_h0 jfu x1 w
set_option maxRecDepth 20000 in
theorem e_Model_settle {l : Launch} {G : jG} (hG : jX G) {x1 : Int32} {w : jW} {z : jW} (h : f_Model_settle x1 w = some z) : Ct l G y_Model_settle d_Model_settle 0 0 [.ref 93, .int x1] jR0 w (none, jR0, z) := by
  rw [f_Model_settle] at h
  refine Ct.of (L := [some (.ref 93), some (.int x1)]) (by decide) (Nat.le_of_ble_eq_true rfl) rfl ?_
  refine ev_mask [true, true] ?_
  exact t_Model_settle_h0 hG jfu _ _ _ h
def f_Model_nameOf (w : jW) : Option (Int32 × jW) :=
  if (w.1 93 9) = 2 then
    Option.bind (f_Model_w4 115 111 114 116 w) fun q1 =>
    if (lg_cmp (w.2 93 11) q1.1) = 0 then
      some (0, q1.2)
    else
      Option.bind (f_Model_w6 108 101 110 103 116 104 q1.2) fun q2 =>
      if (lg_cmp (q1.2.2 93 11) q2.1) = 0 then
        some (1, q2.2)
      else
        Option.bind (f_Model_w6 119 101 105 103 104 116 q2.2) fun q3 =>
        if (lg_cmp (q2.2.2 93 11) q3.1) = 0 then
          some (2, q3.2)
        else
          Option.bind (f_Model_w5 99 108 97 115 115 q3.2) fun q4 =>
          if (lg_cmp (q3.2.2 93 11) q4.1) = 0 then
            some (3, q4.2)
          else
            Option.bind (f_Model_w4 108 97 110 100 q4.2) fun q5 =>
            if (lg_cmp (q4.2.2 93 11) q5.1) = 0 then
              some (4, q5.2)
            else
              some ((-1), q5.2)
  else
    some ((-1), w)
set_option maxRecDepth 20000 in
theorem e_Model_nameOf {l : Launch} {G : jG} (hG : jX G) {w : jW} {z : (Int32 × jW)} (h : f_Model_nameOf w = some z) : Ct l G y_Model_nameOf d_Model_nameOf 0 0 [.ref 93] jR0 w (some (.int z.1), jR0, z.2) := by
  rw [f_Model_nameOf] at h
  refine Ct.of (L := [some (.ref 93)]) (by decide) (Nat.le_of_ble_eq_true rfl) rfl ?_
  refine ev_seg (o := 10) (nL := 1) (q := 5) (xs := [(.aload_n 0, 1, 0, 0, .null), (.getfield 114, 3, 10, 9, .int 0), (.iconst 2, 1, 0, 0, .int 2)]) (L' := [some (.ref 93)]) (st' := [.int 2, .int (w.1 93 9)]) (w' := w) (g := []) (K := [(93, 10)]) (by decide +kernel) rfl rfl rfl rfl (jk1 kz_93 jk0) ?_
  refine ev_icmp_eq (off := 5) (tgt := 10) (by decide +kernel) (by decide) (fun c11 => ?_) (fun c11 => ?_)
  · replace h := jpos c11 h
    refine ev_seg (o := 10) (nL := 1) (q := 22) (xs := [(.aload_n 0, 1, 0, 0, .null), (.getfield 127, 3, 10, 11, .long 0), (.bipush 115, 2, 0, 0, .int 115), (.bipush 111, 2, 0, 0, .int 111), (.bipush 114, 2, 0, 0, .int 114), (.bipush 116, 2, 0, 0, .int 116)]) (L' := [some (.ref 93)]) (st' := [.int 116, .int 114, .int 111, .int 115, .long (w.2 93 11)]) (w' := w) (g := []) (K := [(93, 10)]) (by decide +kernel) rfl rfl rfl rfl (jk1 kz_93 jk0) ?_
    obtain ⟨q1, hq1, h⟩ := jbe h
    refine ev_callS (y2 := y_Model_w4) (o := 10) (idx := 135) (d2 := d_Model_w4) (n := 4) (mc2 := 0) (ms2 := 0) (As := [.int 115, .int 111, .int 114, .int 116]) (st := [.long (w.2 93 11)]) (res2 := (some (.long q1.1), jR0, q1.2)) (by decide +kernel) rfl lk_10_135 mo_Model_w4 ms_Model_w4 ⟨Nat.le_of_ble_eq_true rfl, Nat.le_of_ble_eq_true rfl⟩ rfl rfl (Nat.le_of_ble_eq_true rfl) ⟨Nat.le_refl _, Nat.le_refl _⟩ hG (e_Model_w4 hG hq1) ?_
    refine ev_seg (o := 10) (nL := 1) (q := 26) (xs := [(.lcmp, 1, 0, 0, .null)]) (L' := [some (.ref 93)]) (st' := [.int (lg_cmp (w.2 93 11) q1.1)]) (w' := q1.2) (g := []) (K := []) (by decide +kernel) rfl rfl rfl rfl jk0 ?_
    refine ev_if_ne (off := 5) (tgt := 31) (by decide +kernel) (by decide) (fun c10 => ?_) (fun c10 => ?_)
    · replace h := jneg c10 h
      refine ev_seg (o := 10) (nL := 1) (q := 47) (xs := [(.aload_n 0, 1, 0, 0, .null), (.getfield 127, 3, 10, 11, .long 0), (.bipush 108, 2, 0, 0, .int 108), (.bipush 101, 2, 0, 0, .int 101), (.bipush 110, 2, 0, 0, .int 110), (.bipush 103, 2, 0, 0, .int 103), (.bipush 116, 2, 0, 0, .int 116), (.bipush 104, 2, 0, 0, .int 104)]) (L' := [some (.ref 93)]) (st' := [.int 104, .int 116, .int 103, .int 110, .int 101, .int 108, .long (q1.2.2 93 11)]) (w' := q1.2) (g := []) (K := [(93, 10)]) (by decide +kernel) rfl rfl rfl rfl (jk1 kz_93 jk0) ?_
      obtain ⟨q2, hq2, h⟩ := jbe h
      refine ev_callS (y2 := y_Model_w6) (o := 10) (idx := 166) (d2 := d_Model_w6) (n := 6) (mc2 := 0) (ms2 := 0) (As := [.int 108, .int 101, .int 110, .int 103, .int 116, .int 104]) (st := [.long (q1.2.2 93 11)]) (res2 := (some (.long q2.1), jR0, q2.2)) (by decide +kernel) rfl lk_10_166 mo_Model_w6 ms_Model_w6 ⟨Nat.le_of_ble_eq_true rfl, Nat.le_of_ble_eq_true rfl⟩ rfl rfl (Nat.le_of_ble_eq_true rfl) ⟨Nat.le_refl _, Nat.le_refl _⟩ hG (e_Model_w6 hG hq2) ?_
      refine ev_seg (o := 10) (nL := 1) (q := 51) (xs := [(.lcmp, 1, 0, 0, .null)]) (L' := [some (.ref 93)]) (st' := [.int (lg_cmp (q1.2.2 93 11) q2.1)]) (w' := q2.2) (g := []) (K := []) (by decide +kernel) rfl rfl rfl rfl jk0 ?_
      refine ev_if_ne (off := 5) (tgt := 56) (by decide +kernel) (by decide) (fun c9 => ?_) (fun c9 => ?_)
      · replace h := jneg c9 h
        refine ev_seg (o := 10) (nL := 1) (q := 72) (xs := [(.aload_n 0, 1, 0, 0, .null), (.getfield 127, 3, 10, 11, .long 0), (.bipush 119, 2, 0, 0, .int 119), (.bipush 101, 2, 0, 0, .int 101), (.bipush 105, 2, 0, 0, .int 105), (.bipush 103, 2, 0, 0, .int 103), (.bipush 104, 2, 0, 0, .int 104), (.bipush 116, 2, 0, 0, .int 116)]) (L' := [some (.ref 93)]) (st' := [.int 116, .int 104, .int 103, .int 105, .int 101, .int 119, .long (q2.2.2 93 11)]) (w' := q2.2) (g := []) (K := [(93, 10)]) (by decide +kernel) rfl rfl rfl rfl (jk1 kz_93 jk0) ?_
        obtain ⟨q3, hq3, h⟩ := jbe h
        refine ev_callS (y2 := y_Model_w6) (o := 10) (idx := 166) (d2 := d_Model_w6) (n := 6) (mc2 := 0) (ms2 := 0) (As := [.int 119, .int 101, .int 105, .int 103, .int 104, .int 116]) (st := [.long (q2.2.2 93 11)]) (res2 := (some (.long q3.1), jR0, q3.2)) (by decide +kernel) rfl lk_10_166 mo_Model_w6 ms_Model_w6 ⟨Nat.le_of_ble_eq_true rfl, Nat.le_of_ble_eq_true rfl⟩ rfl rfl (Nat.le_of_ble_eq_true rfl) ⟨Nat.le_refl _, Nat.le_refl _⟩ hG (e_Model_w6 hG hq3) ?_
        refine ev_seg (o := 10) (nL := 1) (q := 76) (xs := [(.lcmp, 1, 0, 0, .null)]) (L' := [some (.ref 93)]) (st' := [.int (lg_cmp (q2.2.2 93 11) q3.1)]) (w' := q3.2) (g := []) (K := []) (by decide +kernel) rfl rfl rfl rfl jk0 ?_
        refine ev_if_ne (off := 5) (tgt := 81) (by decide +kernel) (by decide) (fun c8 => ?_) (fun c8 => ?_)
        · replace h := jneg c8 h
          refine ev_seg (o := 10) (nL := 1) (q := 95) (xs := [(.aload_n 0, 1, 0, 0, .null), (.getfield 127, 3, 10, 11, .long 0), (.bipush 99, 2, 0, 0, .int 99), (.bipush 108, 2, 0, 0, .int 108), (.bipush 97, 2, 0, 0, .int 97), (.bipush 115, 2, 0, 0, .int 115), (.bipush 115, 2, 0, 0, .int 115)]) (L' := [some (.ref 93)]) (st' := [.int 115, .int 115, .int 97, .int 108, .int 99, .long (q3.2.2 93 11)]) (w' := q3.2) (g := []) (K := [(93, 10)]) (by decide +kernel) rfl rfl rfl rfl (jk1 kz_93 jk0) ?_
          obtain ⟨q4, hq4, h⟩ := jbe h
          refine ev_callS (y2 := y_Model_w5) (o := 10) (idx := 139) (d2 := d_Model_w5) (n := 5) (mc2 := 0) (ms2 := 0) (As := [.int 99, .int 108, .int 97, .int 115, .int 115]) (st := [.long (q3.2.2 93 11)]) (res2 := (some (.long q4.1), jR0, q4.2)) (by decide +kernel) rfl lk_10_139 mo_Model_w5 ms_Model_w5 ⟨Nat.le_of_ble_eq_true rfl, Nat.le_of_ble_eq_true rfl⟩ rfl rfl (Nat.le_of_ble_eq_true rfl) ⟨Nat.le_refl _, Nat.le_refl _⟩ hG (e_Model_w5 hG hq4) ?_
          refine ev_seg (o := 10) (nL := 1) (q := 99) (xs := [(.lcmp, 1, 0, 0, .null)]) (L' := [some (.ref 93)]) (st' := [.int (lg_cmp (q3.2.2 93 11) q4.1)]) (w' := q4.2) (g := []) (K := []) (by decide +kernel) rfl rfl rfl rfl jk0 ?_
          refine ev_if_ne (off := 7) (tgt := 106) (by decide +kernel) (by decide) (fun c7 => ?_) (fun c7 => ?_)
          · replace h := jneg c7 h
            refine ev_seg (o := 10) (nL := 1) (q := 118) (xs := [(.aload_n 0, 1, 0, 0, .null), (.getfield 127, 3, 10, 11, .long 0), (.bipush 108, 2, 0, 0, .int 108), (.bipush 97, 2, 0, 0, .int 97), (.bipush 110, 2, 0, 0, .int 110), (.bipush 100, 2, 0, 0, .int 100)]) (L' := [some (.ref 93)]) (st' := [.int 100, .int 110, .int 97, .int 108, .long (q4.2.2 93 11)]) (w' := q4.2) (g := []) (K := [(93, 10)]) (by decide +kernel) rfl rfl rfl rfl (jk1 kz_93 jk0) ?_
            obtain ⟨q5, hq5, h⟩ := jbe h
            refine ev_callS (y2 := y_Model_w4) (o := 10) (idx := 135) (d2 := d_Model_w4) (n := 4) (mc2 := 0) (ms2 := 0) (As := [.int 108, .int 97, .int 110, .int 100]) (st := [.long (q4.2.2 93 11)]) (res2 := (some (.long q5.1), jR0, q5.2)) (by decide +kernel) rfl lk_10_135 mo_Model_w4 ms_Model_w4 ⟨Nat.le_of_ble_eq_true rfl, Nat.le_of_ble_eq_true rfl⟩ rfl rfl (Nat.le_of_ble_eq_true rfl) ⟨Nat.le_refl _, Nat.le_refl _⟩ hG (e_Model_w4 hG hq5) ?_
            refine ev_seg (o := 10) (nL := 1) (q := 122) (xs := [(.lcmp, 1, 0, 0, .null)]) (L' := [some (.ref 93)]) (st' := [.int (lg_cmp (q4.2.2 93 11) q5.1)]) (w' := q5.2) (g := []) (K := []) (by decide +kernel) rfl rfl rfl rfl jk0 ?_
            refine ev_if_ne (off := 7) (tgt := 129) (by decide +kernel) (by decide) (fun c6 => ?_) (fun c6 => ?_)
            · replace h := jneg c6 h
              refine ev_seg (o := 10) (nL := 1) (q := 130) (xs := [(.iconst (-1), 1, 0, 0, .int (-1))]) (L' := [some (.ref 93)]) (st' := [.int (-1)]) (w' := q5.2) (g := []) (K := []) (by decide +kernel) rfl rfl rfl rfl jk0 ?_
              cases h
              exact ev_iret (by decide +kernel) rfl rfl rfl rfl
            · replace h := jpos c6 h
              refine ev_seg (o := 10) (nL := 1) (q := 130) (xs := [(.iconst 4, 1, 0, 0, .int 4), (.goto 4, 3, 0, 0, .null)]) (L' := [some (.ref 93)]) (st' := [.int 4]) (w' := q5.2) (g := []) (K := []) (by decide +kernel) rfl rfl rfl rfl jk0 ?_
              cases h
              exact ev_iret (by decide +kernel) rfl rfl rfl rfl
          · replace h := jpos c7 h
            refine ev_seg (o := 10) (nL := 1) (q := 130) (xs := [(.iconst 3, 1, 0, 0, .int 3), (.goto 27, 3, 0, 0, .null)]) (L' := [some (.ref 93)]) (st' := [.int 3]) (w' := q4.2) (g := []) (K := []) (by decide +kernel) rfl rfl rfl rfl jk0 ?_
            cases h
            exact ev_iret (by decide +kernel) rfl rfl rfl rfl
        · replace h := jpos c8 h
          refine ev_seg (o := 10) (nL := 1) (q := 80) (xs := [(.iconst 2, 1, 0, 0, .int 2)]) (L' := [some (.ref 93)]) (st' := [.int 2]) (w' := q3.2) (g := []) (K := []) (by decide +kernel) rfl rfl rfl rfl jk0 ?_
          cases h
          exact ev_iret (by decide +kernel) rfl rfl rfl rfl
      · replace h := jpos c9 h
        refine ev_seg (o := 10) (nL := 1) (q := 55) (xs := [(.iconst 1, 1, 0, 0, .int 1)]) (L' := [some (.ref 93)]) (st' := [.int 1]) (w' := q2.2) (g := []) (K := []) (by decide +kernel) rfl rfl rfl rfl jk0 ?_
        cases h
        exact ev_iret (by decide +kernel) rfl rfl rfl rfl
    · replace h := jpos c10 h
      refine ev_seg (o := 10) (nL := 1) (q := 30) (xs := [(.iconst 0, 1, 0, 0, .int 0)]) (L' := [some (.ref 93)]) (st' := [.int 0]) (w' := q1.2) (g := []) (K := []) (by decide +kernel) rfl rfl rfl rfl jk0 ?_
      cases h
      exact ev_iret (by decide +kernel) rfl rfl rfl rfl
  · replace h := jneg c11 h
    refine ev_seg (o := 10) (nL := 1) (q := 9) (xs := [(.iconst (-1), 1, 0, 0, .int (-1))]) (L' := [some (.ref 93)]) (st' := [.int (-1)]) (w' := w) (g := []) (K := []) (by decide +kernel) rfl rfl rfl rfl jk0 ?_
    cases h
    exact ev_iret (by decide +kernel) rfl rfl rfl rfl
def f_Model_one_j70 (s0 : Int32) (s1 : Int32) (w : jW) : Option (Int32 × jW) :=
  Option.bind (f_Model_emit s1 s0 w) fun q2 =>
  Option.bind (f_Model_nextToken q2) fun q3 =>
  some (0, q3)
set_option maxRecDepth 20000 in
theorem t_Model_one_j70 {l : Launch} {G : jG} (hG : jX G) {s0 : Int32} {s1 : Int32} {w : jW} {z : (Int32 × jW)} (h : f_Model_one_j70 s0 s1 w = some z) : Ev l G (jrm d_Model_one 0 0) y_Model_one (some (.int z.1), jR0, z.2) 0 0 0 0 70 [some (.ref 93)] [.int s0, .int s1, .ref 93] jR0 w := by
  rw [f_Model_one_j70] at h
  obtain ⟨q2, hq2, h⟩ := jbe h
  refine ev_callV (ci := 10) (a := 93) (y2 := y_Model_emit) (o := 10) (idx := 162) (d2 := d_Model_emit) (n := 2) (mc2 := 0) (ms2 := 0) (As := [.int s1, .int s0]) (st := []) (res2 := (none, jR0, q2)) (by decide +kernel) rfl lk_10_162 mo_Model_emit mv_Model_emit ⟨Nat.le_of_ble_eq_true rfl, Nat.le_of_ble_eq_true rfl⟩ rfl rfl kz_93 (by decide) rfl (Nat.le_of_ble_eq_true rfl) ⟨Nat.le_refl _, Nat.le_refl _⟩ hG (e_Model_emit hG hq2) ?_
  refine ev_seg (o := 10) (nL := 1) (q := 74) (xs := [(.aload_n 0, 1, 0, 0, .null)]) (L' := [some (.ref 93)]) (st' := [.ref 93]) (w' := q2) (g := []) (K := []) (by decide +kernel) rfl rfl rfl rfl jk0 ?_
  obtain ⟨q3, hq3, h⟩ := jbe h
  refine ev_callV (ci := 10) (a := 93) (y2 := y_Model_nextToken) (o := 10) (idx := 147) (d2 := d_Model_nextToken) (n := 0) (mc2 := 0) (ms2 := 0) (As := []) (st := []) (res2 := (none, jR0, q3)) (by decide +kernel) rfl lk_10_147 mo_Model_nextToken mv_Model_nextToken ⟨Nat.le_of_ble_eq_true rfl, Nat.le_of_ble_eq_true rfl⟩ rfl rfl kz_93 (by decide) rfl (Nat.le_of_ble_eq_true rfl) ⟨Nat.le_refl _, Nat.le_refl _⟩ hG (e_Model_nextToken hG hq3) ?_
  refine ev_seg (o := 10) (nL := 1) (q := 78) (xs := [(.iconst 0, 1, 0, 0, .int 0)]) (L' := [some (.ref 93)]) (st' := [.int 0]) (w' := q3) (g := []) (K := []) (by decide +kernel) rfl rfl rfl rfl jk0 ?_
  cases h
  exact ev_iret (by decide +kernel) rfl rfl rfl rfl
def f_Model_one_j51 (s0 : Int32) (w : jW) : Option (Int32 × jW) :=
  if (w.1 93 9) = 1 then
    f_Model_one_j70 (w.1 93 10) s0 w
  else
    Option.bind (f_Model_nameOf w) fun q1 =>
    f_Model_one_j70 q1.1 s0 q1.2
set_option maxRecDepth 20000 in
theorem t_Model_one_j51 {l : Launch} {G : jG} (hG : jX G) {s0 : Int32} {w : jW} {z : (Int32 × jW)} (h : f_Model_one_j51 s0 w = some z) : Ev l G (jrm d_Model_one 0 0) y_Model_one (some (.int z.1), jR0, z.2) 0 0 0 0 51 [some (.ref 93)] [.int s0, .ref 93] jR0 w := by
  rw [f_Model_one_j51] at h
  refine ev_seg (o := 10) (nL := 1) (q := 56) (xs := [(.aload_n 0, 1, 0, 0, .null), (.getfield 114, 3, 10, 9, .int 0), (.iconst 1, 1, 0, 0, .int 1)]) (L' := [some (.ref 93)]) (st' := [.int 1, .int (w.1 93 9), .int s0, .ref 93]) (w' := w) (g := []) (K := [(93, 10)]) (by decide +kernel) rfl rfl rfl rfl (jk1 kz_93 jk0) ?_
  refine ev_icmp_ne (off := 10) (tgt := 66) (by decide +kernel) (by decide) (fun c4 => ?_) (fun c4 => ?_)
  · replace h := jneg c4 h
    refine ev_seg (o := 10) (nL := 1) (q := 67) (xs := [(.aload_n 0, 1, 0, 0, .null)]) (L' := [some (.ref 93)]) (st' := [.ref 93, .int s0, .ref 93]) (w' := w) (g := []) (K := []) (by decide +kernel) rfl rfl rfl rfl jk0 ?_
    obtain ⟨q1, hq1, h⟩ := jbe h
    refine ev_callV (ci := 10) (a := 93) (y2 := y_Model_nameOf) (o := 10) (idx := 170) (d2 := d_Model_nameOf) (n := 0) (mc2 := 0) (ms2 := 0) (As := []) (st := [.int s0, .ref 93]) (res2 := (some (.int q1.1), jR0, q1.2)) (by decide +kernel) rfl lk_10_170 mo_Model_nameOf mv_Model_nameOf ⟨Nat.le_of_ble_eq_true rfl, Nat.le_of_ble_eq_true rfl⟩ rfl rfl kz_93 (by decide) rfl (Nat.le_of_ble_eq_true rfl) ⟨Nat.le_refl _, Nat.le_refl _⟩ hG (e_Model_nameOf hG hq1) ?_
    refine ev_mask [true] ?_
    exact t_Model_one_j70 hG h
  · replace h := jpos c4 h
    refine ev_seg (o := 10) (nL := 1) (q := 70) (xs := [(.aload_n 0, 1, 0, 0, .null), (.getfield 120, 3, 10, 10, .int 0), (.goto 7, 3, 0, 0, .null)]) (L' := [some (.ref 93)]) (st' := [.int (w.1 93 10), .int s0, .ref 93]) (w' := w) (g := []) (K := [(93, 10)]) (by decide +kernel) rfl rfl rfl rfl (jk1 kz_93 jk0) ?_
    refine ev_mask [true] ?_
    exact t_Model_one_j70 hG h
def f_Model_one_j37 (w : jW) : Option (Int32 × jW) :=
  if (w.1 93 9) = 1 then
    f_Model_one_j51 0 w
  else
    f_Model_one_j51 1 w
set_option maxRecDepth 20000 in
theorem t_Model_one_j37 {l : Launch} {G : jG} (hG : jX G) {w : jW} {z : (Int32 × jW)} (h : f_Model_one_j37 w = some z) : Ev l G (jrm d_Model_one 0 0) y_Model_one (some (.int z.1), jR0, z.2) 0 0 0 0 37 [some (.ref 93)] [] jR0 w := by
  rw [f_Model_one_j37] at h
  refine ev_seg (o := 10) (nL := 1) (q := 43) (xs := [(.aload_n 0, 1, 0, 0, .null), (.aload_n 0, 1, 0, 0, .null), (.getfield 114, 3, 10, 9, .int 0), (.iconst 1, 1, 0, 0, .int 1)]) (L' := [some (.ref 93)]) (st' := [.int 1, .int (w.1 93 9), .ref 93]) (w' := w) (g := []) (K := [(93, 10)]) (by decide +kernel) rfl rfl rfl rfl (jk1 kz_93 jk0) ?_
  refine ev_icmp_ne (off := 7) (tgt := 50) (by decide +kernel) (by decide) (fun c5 => ?_) (fun c5 => ?_)
  · replace h := jneg c5 h
    refine ev_seg (o := 10) (nL := 1) (q := 51) (xs := [(.iconst 1, 1, 0, 0, .int 1)]) (L' := [some (.ref 93)]) (st' := [.int 1, .ref 93]) (w' := w) (g := []) (K := []) (by decide +kernel) rfl rfl rfl rfl jk0 ?_
    refine ev_mask [true] ?_
    exact t_Model_one_j51 hG h
  · replace h := jpos c5 h
    refine ev_seg (o := 10) (nL := 1) (q := 51) (xs := [(.iconst 0, 1, 0, 0, .int 0), (.goto 4, 3, 0, 0, .null)]) (L' := [some (.ref 93)]) (st' := [.int 0, .ref 93]) (w' := w) (g := []) (K := []) (by decide +kernel) rfl rfl rfl rfl jk0 ?_
    refine ev_mask [true] ?_
    exact t_Model_one_j51 hG h
def f_Model_one_j20 (w : jW) : Option (Int32 × jW) :=
  if (w.1 93 9) = 1 then
    f_Model_one_j37 w
  else
    Option.bind (f_Model_nameOf w) fun q6 =>
    if q6.1 < 0 then
      some (1, q6.2)
    else
      f_Model_one_j37 q6.2
set_option maxRecDepth 20000 in
theorem t_Model_one_j20 {l : Launch} {G : jG} (hG : jX G) {w : jW} {z : (Int32 × jW)} (h : f_Model_one_j20 w = some z) : Ev l G (jrm d_Model_one 0 0) y_Model_one (some (.int z.1), jR0, z.2) 0 0 0 0 20 [some (.ref 93)] [] jR0 w := by
  rw [f_Model_one_j20] at h
  refine ev_seg (o := 10) (nL := 1) (q := 25) (xs := [(.aload_n 0, 1, 0, 0, .null), (.getfield 114, 3, 10, 9, .int 0), (.iconst 1, 1, 0, 0, .int 1)]) (L' := [some (.ref 93)]) (st' := [.int 1, .int (w.1 93 9)]) (w' := w) (g := []) (K := [(93, 10)]) (by decide +kernel) rfl rfl rfl rfl (jk1 kz_93 jk0) ?_
  refine ev_icmp_eq (off := 12) (tgt := 37) (by decide +kernel) (by decide) (fun c8 => ?_) (fun c8 => ?_)
  · replace h := jpos c8 h
    refine ev_mask [true] ?_
    exact t_Model_one_j37 hG h
  · replace h := jneg c8 h
    refine ev_seg (o := 10) (nL := 1) (q := 29) (xs := [(.aload_n 0, 1, 0, 0, .null)]) (L' := [some (.ref 93)]) (st' := [.ref 93]) (w' := w) (g := []) (K := []) (by decide +kernel) rfl rfl rfl rfl jk0 ?_
    obtain ⟨q6, hq6, h⟩ := jbe h
    refine ev_callV (ci := 10) (a := 93) (y2 := y_Model_nameOf) (o := 10) (idx := 170) (d2 := d_Model_nameOf) (n := 0) (mc2 := 0) (ms2 := 0) (As := []) (st := []) (res2 := (some (.int q6.1), jR0, q6.2)) (by decide +kernel) rfl lk_10_170 mo_Model_nameOf mv_Model_nameOf ⟨Nat.le_of_ble_eq_true rfl, Nat.le_of_ble_eq_true rfl⟩ rfl rfl kz_93 (by decide) rfl (Nat.le_of_ble_eq_true rfl) ⟨Nat.le_refl _, Nat.le_refl _⟩ hG (e_Model_nameOf hG hq6) ?_
    refine ev_if_ge (off := 5) (tgt := 37) (by decide +kernel) (by decide) (fun c7 => ?_) (fun c7 => ?_)
    · replace h := jneg c7 h
      refine ev_mask [true] ?_
      exact t_Model_one_j37 hG h
    · replace h := jpos c7 h
      refine ev_seg (o := 10) (nL := 1) (q := 36) (xs := [(.iconst 1, 1, 0, 0, .int 1)]) (L' := [some (.ref 93)]) (st' := [.int 1]) (w' := q6.2) (g := []) (K := []) (by decide +kernel) rfl rfl rfl rfl jk0 ?_
      cases h
      exact ev_iret (by decide +kernel) rfl rfl rfl rfl
def f_Model_one (w : jW) : Option (Int32 × jW) :=
  if (w.1 93 9) = 1 then
    if (w.1 93 10) ≤ 9999 then
      f_Model_one_j20 w
    else
      some (2, w)
  else
    f_Model_one_j20 w
set_option maxRecDepth 20000 in
theorem e_Model_one {l : Launch} {G : jG} (hG : jX G) {w : jW} {z : (Int32 × jW)} (h : f_Model_one w = some z) : Ct l G y_Model_one d_Model_one 0 0 [.ref 93] jR0 w (some (.int z.1), jR0, z.2) := by
  rw [f_Model_one] at h
  refine Ct.of (L := [some (.ref 93)]) (by decide) (Nat.le_of_ble_eq_true rfl) rfl ?_
  refine ev_seg (o := 10) (nL := 1) (q := 5) (xs := [(.aload_n 0, 1, 0, 0, .null), (.getfield 114, 3, 10, 9, .int 0), (.iconst 1, 1, 0, 0, .int 1)]) (L' := [some (.ref 93)]) (st' := [.int 1, .int (w.1 93 9)]) (w' := w) (g := []) (K := [(93, 10)]) (by decide +kernel) rfl rfl rfl rfl (jk1 kz_93 jk0) ?_
  refine ev_icmp_ne (off := 15) (tgt := 20) (by decide +kernel) (by decide) (fun c10 => ?_) (fun c10 => ?_)
  · replace h := jneg c10 h
    refine ev_mask [true] ?_
    exact t_Model_one_j20 hG h
  · replace h := jpos c10 h
    refine ev_seg (o := 10) (nL := 1) (q := 15) (xs := [(.aload_n 0, 1, 0, 0, .null), (.getfield 120, 3, 10, 10, .int 0), (.sipush 9999, 3, 0, 0, .int 9999)]) (L' := [some (.ref 93)]) (st' := [.int 9999, .int (w.1 93 10)]) (w' := w) (g := []) (K := [(93, 10)]) (by decide +kernel) rfl rfl rfl rfl (jk1 kz_93 jk0) ?_
    refine ev_icmp_le (off := 5) (tgt := 20) (by decide +kernel) (by decide) (fun c9 => ?_) (fun c9 => ?_)
    · replace h := jpos c9 h
      refine ev_mask [true] ?_
      exact t_Model_one_j20 hG h
    · replace h := jneg c9 h
      refine ev_seg (o := 10) (nL := 1) (q := 19) (xs := [(.iconst 2, 1, 0, 0, .int 2)]) (L' := [some (.ref 93)]) (st' := [.int 2]) (w' := w) (g := []) (K := []) (by decide +kernel) rfl rfl rfl rfl jk0 ?_
      cases h
      exact ev_iret (by decide +kernel) rfl rfl rfl rfl
def f_Model_compareOf (w : jW) : Option (Int32 × jW) :=
  if (w.1 93 9) = 60 then
    some (10, w)
  else
    if (w.1 93 9) = 4 then
      some (11, w)
    else
      if (w.1 93 9) = 62 then
        some (12, w)
      else
        if (w.1 93 9) = 5 then
          some (13, w)
        else
          if (w.1 93 9) = 61 then
            some (14, w)
          else
            if (w.1 93 9) = 35 then
              some (15, w)
            else
              some ((-1), w)
set_option maxRecDepth 20000 in
theorem e_Model_compareOf {l : Launch} {G : jG} (hG : jX G) {w : jW} {z : (Int32 × jW)} (h : f_Model_compareOf w = some z) : Ct l G y_Model_compareOf d_Model_compareOf 0 0 [.ref 93] jR0 w (some (.int z.1), jR0, z.2) := by
  rw [f_Model_compareOf] at h
  refine Ct.of (L := [some (.ref 93)]) (by decide) (Nat.le_of_ble_eq_true rfl) rfl ?_
  refine ev_seg (o := 10) (nL := 1) (q := 6) (xs := [(.aload_n 0, 1, 0, 0, .null), (.getfield 114, 3, 10, 9, .int 0), (.bipush 60, 2, 0, 0, .int 60)]) (L' := [some (.ref 93)]) (st' := [.int 60, .int (w.1 93 9)]) (w' := w) (g := []) (K := [(93, 10)]) (by decide +kernel) rfl rfl rfl rfl (jk1 kz_93 jk0) ?_
  refine ev_icmp_ne (off := 8) (tgt := 14) (by decide +kernel) (by decide) (fun c6 => ?_) (fun c6 => ?_)
  · replace h := jneg c6 h
    refine ev_seg (o := 10) (nL := 1) (q := 19) (xs := [(.aload_n 0, 1, 0, 0, .null), (.getfield 114, 3, 10, 9, .int 0), (.iconst 4, 1, 0, 0, .int 4)]) (L' := [some (.ref 93)]) (st' := [.int 4, .int (w.1 93 9)]) (w' := w) (g := []) (K := [(93, 10)]) (by decide +kernel) rfl rfl rfl rfl (jk1 kz_93 jk0) ?_
    refine ev_icmp_ne (off := 8) (tgt := 27) (by decide +kernel) (by decide) (fun c5 => ?_) (fun c5 => ?_)
    · replace h := jneg c5 h
      refine ev_seg (o := 10) (nL := 1) (q := 33) (xs := [(.aload_n 0, 1, 0, 0, .null), (.getfield 114, 3, 10, 9, .int 0), (.bipush 62, 2, 0, 0, .int 62)]) (L' := [some (.ref 93)]) (st' := [.int 62, .int (w.1 93 9)]) (w' := w) (g := []) (K := [(93, 10)]) (by decide +kernel) rfl rfl rfl rfl (jk1 kz_93 jk0) ?_
      refine ev_icmp_ne (off := 8) (tgt := 41) (by decide +kernel) (by decide) (fun c4 => ?_) (fun c4 => ?_)
      · replace h := jneg c4 h
        refine ev_seg (o := 10) (nL := 1) (q := 46) (xs := [(.aload_n 0, 1, 0, 0, .null), (.getfield 114, 3, 10, 9, .int 0), (.iconst 5, 1, 0, 0, .int 5)]) (L' := [some (.ref 93)]) (st' := [.int 5, .int (w.1 93 9)]) (w' := w) (g := []) (K := [(93, 10)]) (by decide +kernel) rfl rfl rfl rfl (jk1 kz_93 jk0) ?_
        refine ev_icmp_ne (off := 8) (tgt := 54) (by decide +kernel) (by decide) (fun c3 => ?_) (fun c3 => ?_)
        · replace h := jneg c3 h
          refine ev_seg (o := 10) (nL := 1) (q := 60) (xs := [(.aload_n 0, 1, 0, 0, .null), (.getfield 114, 3, 10, 9, .int 0), (.bipush 61, 2, 0, 0, .int 61)]) (L' := [some (.ref 93)]) (st' := [.int 61, .int (w.1 93 9)]) (w' := w) (g := []) (K := [(93, 10)]) (by decide +kernel) rfl rfl rfl rfl (jk1 kz_93 jk0) ?_
          refine ev_icmp_ne (off := 8) (tgt := 68) (by decide +kernel) (by decide) (fun c2 => ?_) (fun c2 => ?_)
          · replace h := jneg c2 h
            refine ev_seg (o := 10) (nL := 1) (q := 74) (xs := [(.aload_n 0, 1, 0, 0, .null), (.getfield 114, 3, 10, 9, .int 0), (.bipush 35, 2, 0, 0, .int 35)]) (L' := [some (.ref 93)]) (st' := [.int 35, .int (w.1 93 9)]) (w' := w) (g := []) (K := [(93, 10)]) (by decide +kernel) rfl rfl rfl rfl (jk1 kz_93 jk0) ?_
            refine ev_icmp_ne (off := 8) (tgt := 82) (by decide +kernel) (by decide) (fun c1 => ?_) (fun c1 => ?_)
            · replace h := jneg c1 h
              refine ev_seg (o := 10) (nL := 1) (q := 83) (xs := [(.iconst (-1), 1, 0, 0, .int (-1))]) (L' := [some (.ref 93)]) (st' := [.int (-1)]) (w' := w) (g := []) (K := []) (by decide +kernel) rfl rfl rfl rfl jk0 ?_
              cases h
              exact ev_iret (by decide +kernel) rfl rfl rfl rfl
            · replace h := jpos c1 h
              refine ev_seg (o := 10) (nL := 1) (q := 83) (xs := [(.bipush 15, 2, 0, 0, .int 15), (.goto 4, 3, 0, 0, .null)]) (L' := [some (.ref 93)]) (st' := [.int 15]) (w' := w) (g := []) (K := []) (by decide +kernel) rfl rfl rfl rfl jk0 ?_
              cases h
              exact ev_iret (by decide +kernel) rfl rfl rfl rfl
          · replace h := jpos c2 h
            refine ev_seg (o := 10) (nL := 1) (q := 83) (xs := [(.bipush 14, 2, 0, 0, .int 14), (.goto 18, 3, 0, 0, .null)]) (L' := [some (.ref 93)]) (st' := [.int 14]) (w' := w) (g := []) (K := []) (by decide +kernel) rfl rfl rfl rfl jk0 ?_
            cases h
            exact ev_iret (by decide +kernel) rfl rfl rfl rfl
        · replace h := jpos c3 h
          refine ev_seg (o := 10) (nL := 1) (q := 83) (xs := [(.bipush 13, 2, 0, 0, .int 13), (.goto 32, 3, 0, 0, .null)]) (L' := [some (.ref 93)]) (st' := [.int 13]) (w' := w) (g := []) (K := []) (by decide +kernel) rfl rfl rfl rfl jk0 ?_
          cases h
          exact ev_iret (by decide +kernel) rfl rfl rfl rfl
      · replace h := jpos c4 h
        refine ev_seg (o := 10) (nL := 1) (q := 83) (xs := [(.bipush 12, 2, 0, 0, .int 12), (.goto 45, 3, 0, 0, .null)]) (L' := [some (.ref 93)]) (st' := [.int 12]) (w' := w) (g := []) (K := []) (by decide +kernel) rfl rfl rfl rfl jk0 ?_
        cases h
        exact ev_iret (by decide +kernel) rfl rfl rfl rfl
    · replace h := jpos c5 h
      refine ev_seg (o := 10) (nL := 1) (q := 83) (xs := [(.bipush 11, 2, 0, 0, .int 11), (.goto 59, 3, 0, 0, .null)]) (L' := [some (.ref 93)]) (st' := [.int 11]) (w' := w) (g := []) (K := []) (by decide +kernel) rfl rfl rfl rfl jk0 ?_
      cases h
      exact ev_iret (by decide +kernel) rfl rfl rfl rfl
  · replace h := jpos c6 h
    refine ev_seg (o := 10) (nL := 1) (q := 83) (xs := [(.bipush 10, 2, 0, 0, .int 10), (.goto 72, 3, 0, 0, .null)]) (L' := [some (.ref 93)]) (st' := [.int 10]) (w' := w) (g := []) (K := []) (by decide +kernel) rfl rfl rfl rfl jk0 ?_
    cases h
    exact ev_iret (by decide +kernel) rfl rfl rfl rfl
def f_Model_compare (w : jW) : Option (Int32 × jW) :=
  Option.bind (f_Model_one w) fun q1 =>
  if q1.1 = 0 then
    Option.bind (f_Model_compareOf q1.2) fun q2 =>
    if q2.1 < 0 then
      some (1, q2.2)
    else
      Option.bind (f_Model_nextToken q2.2) fun q3 =>
      Option.bind (f_Model_one q3) fun q4 =>
      if q4.1 = 0 then
        Option.bind (f_Model_emit q2.1 0 q4.2) fun q5 =>
        Option.bind (f_Model_whole1 q5) fun q6 =>
        some (0, q6)
      else
        some (q4.1, q4.2)
  else
    some (q1.1, q1.2)
set_option maxRecDepth 20000 in
theorem e_Model_compare {l : Launch} {G : jG} (hG : jX G) {w : jW} {z : (Int32 × jW)} (h : f_Model_compare w = some z) : Ct l G y_Model_compare d_Model_compare 0 0 [.ref 93] jR0 w (some (.int z.1), jR0, z.2) := by
  rw [f_Model_compare] at h
  refine Ct.of (L := [some (.ref 93), none, none]) (by decide) (Nat.le_of_ble_eq_true rfl) rfl ?_
  refine ev_seg (o := 10) (nL := 3) (q := 1) (xs := [(.aload_n 0, 1, 0, 0, .null)]) (L' := [some (.ref 93), none, none]) (st' := [.ref 93]) (w' := w) (g := []) (K := []) (by decide +kernel) rfl rfl rfl rfl jk0 ?_
  obtain ⟨q1, hq1, h⟩ := jbe h
  refine ev_callV (ci := 10) (a := 93) (y2 := y_Model_one) (o := 10) (idx := 174) (d2 := d_Model_one) (n := 0) (mc2 := 0) (ms2 := 0) (As := []) (st := []) (res2 := (some (.int q1.1), jR0, q1.2)) (by decide +kernel) rfl lk_10_174 mo_Model_one mv_Model_one ⟨Nat.le_of_ble_eq_true rfl, Nat.le_of_ble_eq_true rfl⟩ rfl rfl kz_93 (by decide) rfl (Nat.le_of_ble_eq_true rfl) ⟨Nat.le_refl _, Nat.le_refl _⟩ hG (e_Model_one hG hq1) ?_
  refine ev_seg (o := 10) (nL := 3) (q := 6) (xs := [(.istore_n 1, 1, 1, 0, .null), (.iload_n 1, 1, 1, 0, .null)]) (L' := [some (.ref 93), some (.int q1.1), none]) (st' := [.int q1.1]) (w' := q1.2) (g := []) (K := []) (by decide +kernel) rfl rfl rfl rfl jk0 ?_
  refine ev_if_eq (off := 5) (tgt := 11) (by decide +kernel) (by decide) (fun c9 => ?_) (fun c9 => ?_)
  · replace h := jpos c9 h
    refine ev_seg (o := 10) (nL := 3) (q := 12) (xs := [(.aload_n 0, 1, 0, 0, .null)]) (L' := [some (.ref 93), some (.int q1.1), none]) (st' := [.ref 93]) (w' := q1.2) (g := []) (K := []) (by decide +kernel) rfl rfl rfl rfl jk0 ?_
    obtain ⟨q2, hq2, h⟩ := jbe h
    refine ev_callV (ci := 10) (a := 93) (y2 := y_Model_compareOf) (o := 10) (idx := 177) (d2 := d_Model_compareOf) (n := 0) (mc2 := 0) (ms2 := 0) (As := []) (st := []) (res2 := (some (.int q2.1), jR0, q2.2)) (by decide +kernel) rfl lk_10_177 mo_Model_compareOf mv_Model_compareOf ⟨Nat.le_of_ble_eq_true rfl, Nat.le_of_ble_eq_true rfl⟩ rfl rfl kz_93 (by decide) rfl (Nat.le_of_ble_eq_true rfl) ⟨Nat.le_refl _, Nat.le_refl _⟩ hG (e_Model_compareOf hG hq2) ?_
    refine ev_seg (o := 10) (nL := 3) (q := 17) (xs := [(.istore_n 2, 1, 2, 0, .null), (.iload_n 2, 1, 2, 0, .null)]) (L' := [some (.ref 93), some (.int q1.1), some (.int q2.1)]) (st' := [.int q2.1]) (w' := q2.2) (g := []) (K := []) (by decide +kernel) rfl rfl rfl rfl jk0 ?_
    refine ev_if_ge (off := 5) (tgt := 22) (by decide +kernel) (by decide) (fun c8 => ?_) (fun c8 => ?_)
    · replace h := jneg c8 h
      refine ev_seg (o := 10) (nL := 3) (q := 23) (xs := [(.aload_n 0, 1, 0, 0, .null)]) (L' := [some (.ref 93), some (.int q1.1), some (.int q2.1)]) (st' := [.ref 93]) (w' := q2.2) (g := []) (K := []) (by decide +kernel) rfl rfl rfl rfl jk0 ?_
      obtain ⟨q3, hq3, h⟩ := jbe h
      refine ev_callV (ci := 10) (a := 93) (y2 := y_Model_nextToken) (o := 10) (idx := 147) (d2 := d_Model_nextToken) (n := 0) (mc2 := 0) (ms2 := 0) (As := []) (st := []) (res2 := (none, jR0, q3)) (by decide +kernel) rfl lk_10_147 mo_Model_nextToken mv_Model_nextToken ⟨Nat.le_of_ble_eq_true rfl, Nat.le_of_ble_eq_true rfl⟩ rfl rfl kz_93 (by decide) rfl (Nat.le_of_ble_eq_true rfl) ⟨Nat.le_refl _, Nat.le_refl _⟩ hG (e_Model_nextToken hG hq3) ?_
      refine ev_seg (o := 10) (nL := 3) (q := 27) (xs := [(.aload_n 0, 1, 0, 0, .null)]) (L' := [some (.ref 93), some (.int q1.1), some (.int q2.1)]) (st' := [.ref 93]) (w' := q3) (g := []) (K := []) (by decide +kernel) rfl rfl rfl rfl jk0 ?_
      obtain ⟨q4, hq4, h⟩ := jbe h
      refine ev_callV (ci := 10) (a := 93) (y2 := y_Model_one) (o := 10) (idx := 174) (d2 := d_Model_one) (n := 0) (mc2 := 0) (ms2 := 0) (As := []) (st := []) (res2 := (some (.int q4.1), jR0, q4.2)) (by decide +kernel) rfl lk_10_174 mo_Model_one mv_Model_one ⟨Nat.le_of_ble_eq_true rfl, Nat.le_of_ble_eq_true rfl⟩ rfl rfl kz_93 (by decide) rfl (Nat.le_of_ble_eq_true rfl) ⟨Nat.le_refl _, Nat.le_refl _⟩ hG (e_Model_one hG hq4) ?_
      refine ev_seg (o := 10) (nL := 3) (q := 32) (xs := [(.istore_n 1, 1, 1, 0, .null), (.iload_n 1, 1, 1, 0, .null)]) (L' := [some (.ref 93), some (.int q4.1), some (.int q2.1)]) (st' := [.int q4.1]) (w' := q4.2) (g := []) (K := []) (by decide +kernel) rfl rfl rfl rfl jk0 ?_
      refine ev_if_eq (off := 5) (tgt := 37) (by decide +kernel) (by decide) (fun c7 => ?_) (fun c7 => ?_)
      · replace h := jpos c7 h
        refine ev_seg (o := 10) (nL := 3) (q := 40) (xs := [(.aload_n 0, 1, 0, 0, .null), (.iload_n 2, 1, 2, 0, .null), (.iconst 0, 1, 0, 0, .int 0)]) (L' := [some (.ref 93), some (.int q4.1), some (.int q2.1)]) (st' := [.int 0, .int q2.1, .ref 93]) (w' := q4.2) (g := []) (K := []) (by decide +kernel) rfl rfl rfl rfl jk0 ?_
        obtain ⟨q5, hq5, h⟩ := jbe h
        refine ev_callV (ci := 10) (a := 93) (y2 := y_Model_emit) (o := 10) (idx := 162) (d2 := d_Model_emit) (n := 2) (mc2 := 0) (ms2 := 0) (As := [.int q2.1, .int 0]) (st := []) (res2 := (none, jR0, q5)) (by decide +kernel) rfl lk_10_162 mo_Model_emit mv_Model_emit ⟨Nat.le_of_ble_eq_true rfl, Nat.le_of_ble_eq_true rfl⟩ rfl rfl kz_93 (by decide) rfl (Nat.le_of_ble_eq_true rfl) ⟨Nat.le_refl _, Nat.le_refl _⟩ hG (e_Model_emit hG hq5) ?_
        refine ev_seg (o := 10) (nL := 3) (q := 44) (xs := [(.aload_n 0, 1, 0, 0, .null)]) (L' := [some (.ref 93), some (.int q4.1), some (.int q2.1)]) (st' := [.ref 93]) (w' := q5) (g := []) (K := []) (by decide +kernel) rfl rfl rfl rfl jk0 ?_
        obtain ⟨q6, hq6, h⟩ := jbe h
        refine ev_callV (ci := 10) (a := 93) (y2 := y_Model_whole1) (o := 10) (idx := 180) (d2 := d_Model_whole1) (n := 0) (mc2 := 0) (ms2 := 0) (As := []) (st := []) (res2 := (none, jR0, q6)) (by decide +kernel) rfl lk_10_180 mo_Model_whole1 mv_Model_whole1 ⟨Nat.le_of_ble_eq_true rfl, Nat.le_of_ble_eq_true rfl⟩ rfl rfl kz_93 (by decide) rfl (Nat.le_of_ble_eq_true rfl) ⟨Nat.le_refl _, Nat.le_refl _⟩ hG (e_Model_whole1 hG hq6) ?_
        refine ev_seg (o := 10) (nL := 3) (q := 48) (xs := [(.iconst 0, 1, 0, 0, .int 0)]) (L' := [some (.ref 93), some (.int q4.1), some (.int q2.1)]) (st' := [.int 0]) (w' := q6) (g := []) (K := []) (by decide +kernel) rfl rfl rfl rfl jk0 ?_
        cases h
        exact ev_iret (by decide +kernel) rfl rfl rfl rfl
      · replace h := jneg c7 h
        refine ev_seg (o := 10) (nL := 3) (q := 36) (xs := [(.iload_n 1, 1, 1, 0, .null)]) (L' := [some (.ref 93), some (.int q4.1), some (.int q2.1)]) (st' := [.int q4.1]) (w' := q4.2) (g := []) (K := []) (by decide +kernel) rfl rfl rfl rfl jk0 ?_
        cases h
        exact ev_iret (by decide +kernel) rfl rfl rfl rfl
    · replace h := jpos c8 h
      refine ev_seg (o := 10) (nL := 3) (q := 21) (xs := [(.iconst 1, 1, 0, 0, .int 1)]) (L' := [some (.ref 93), some (.int q1.1), some (.int q2.1)]) (st' := [.int 1]) (w' := q2.2) (g := []) (K := []) (by decide +kernel) rfl rfl rfl rfl jk0 ?_
      cases h
      exact ev_iret (by decide +kernel) rfl rfl rfl rfl
  · replace h := jneg c9 h
    refine ev_seg (o := 10) (nL := 3) (q := 10) (xs := [(.iload_n 1, 1, 1, 0, .null)]) (L' := [some (.ref 93), some (.int q1.1), none]) (st' := [.int q1.1]) (w' := q1.2) (g := []) (K := []) (by decide +kernel) rfl rfl rfl rfl jk0 ?_
    cases h
    exact ev_iret (by decide +kernel) rfl rfl rfl rfl
def f_Model_hasParen_h2 : Nat → Int32 → jW → Option (Int32 × jW)
  | 0, _, _ => none
  | n + 1, x1, w =>
  if x1 < (w.1 93 16) then
    if jal [jin x1 160] = true then
    if (w.1 98 (Int32.toNatClampNeg x1)) = 40 then
      some (1, w)
    else
      (f_Model_hasParen_h2 n) (x1 + 1) w
    else none
  else
    some (0, w)
set_option maxRecDepth 20000 in
theorem t_Model_hasParen_h2 {l : Launch} {G : jG} (hG : jX G) : ∀ (n : Nat) (x1 : Int32) (w : jW) (z : (Int32 × jW)), f_Model_hasParen_h2 n x1 w = some z → Ev l G (jrm d_Model_hasParen 0 0) y_Model_hasParen (some (.int z.1), jR0, z.2) 0 0 0 0 2 [some (.ref 93), some (.int x1)] [] jR0 w := by
  intro n
  induction n with
  | zero => intro x1 w z h; simp only [f_Model_hasParen_h2] at h; cases h
  | succ n ih =>
    intro x1 w z h
    rw [f_Model_hasParen_h2] at h
    refine ev_seg (o := 10) (nL := 2) (q := 7) (xs := [(.iload_n 1, 1, 1, 0, .null), (.aload_n 0, 1, 0, 0, .null), (.getfield 156, 3, 10, 16, .int 0)]) (L' := [some (.ref 93), some (.int x1)]) (st' := [.int (w.1 93 16), .int x1]) (w' := w) (g := []) (K := [(93, 10)]) (by decide +kernel) rfl rfl rfl rfl (jk1 kz_93 jk0) ?_
    refine ev_icmp_ge (off := 22) (tgt := 29) (by decide +kernel) (by decide) (fun c3 => ?_) (fun c3 => ?_)
    · replace h := jneg c3 h
      refine ev_seg (o := 10) (nL := 2) (q := 30) (xs := [(.iconst 0, 1, 0, 0, .int 0)]) (L' := [some (.ref 93), some (.int x1)]) (st' := [.int 0]) (w' := w) (g := []) (K := []) (by decide +kernel) rfl rfl rfl rfl jk0 ?_
      cases h
      exact ev_zret (by decide +kernel) rfl rfl rfl rfl rfl
    · replace h := jpos c3 h
      obtain ⟨hg1, h⟩ := jgd h
      refine ev_seg (o := 10) (nL := 2) (q := 18) (xs := [(.aload_n 0, 1, 0, 0, .null), (.getfield 29, 3, 10, 17, .ref 20), (.iload_n 1, 1, 1, 0, .null), (.iaload, 1, 0, 0, .null), (.bipush 40, 2, 0, 0, .int 40)]) (L' := [some (.ref 93), some (.int x1)]) (st' := [.int 40, .int (w.1 98 (Int32.toNatClampNeg x1))]) (w' := w) (g := [jin x1 160]) (K := [(98, 20), (98, 20), (93, 10)]) (by decide +kernel) rfl rfl rfl hg1 (jk1 kz_98 (jk1 kz_98 (jk1 kz_93 jk0))) ?_
      refine ev_icmp_ne (off := 5) (tgt := 23) (by decide +kernel) (by decide) (fun c2 => ?_) (fun c2 => ?_)
      · replace h := jneg c2 h
        refine ev_seg (o := 10) (nL := 2) (q := 2) (xs := [(.iinc 1 1, 3, 1, 0, .int 1), (.goto (-24), 3, 0, 0, .null)]) (L' := [some (.ref 93), some (.int (x1 + 1))]) (st' := []) (w' := w) (g := []) (K := []) (by decide +kernel) rfl rfl rfl rfl jk0 ?_
        refine ev_mask [true, true] ?_
        exact ih _ _ _ h
      · replace h := jpos c2 h
        refine ev_seg (o := 10) (nL := 2) (q := 22) (xs := [(.iconst 1, 1, 0, 0, .int 1)]) (L' := [some (.ref 93), some (.int x1)]) (st' := [.int 1]) (w' := w) (g := []) (K := []) (by decide +kernel) rfl rfl rfl rfl jk0 ?_
        cases h
        exact ev_zret (by decide +kernel) rfl rfl rfl rfl rfl
def f_Model_hasParen (w : jW) : Option (Int32 × jW) :=
  f_Model_hasParen_h2 jfu 0 w
set_option maxRecDepth 20000 in
theorem e_Model_hasParen {l : Launch} {G : jG} (hG : jX G) {w : jW} {z : (Int32 × jW)} (h : f_Model_hasParen w = some z) : Ct l G y_Model_hasParen d_Model_hasParen 0 0 [.ref 93] jR0 w (some (.int z.1), jR0, z.2) := by
  rw [f_Model_hasParen] at h
  refine Ct.of (L := [some (.ref 93), none]) (by decide) (Nat.le_of_ble_eq_true rfl) rfl ?_
  refine ev_seg (o := 10) (nL := 2) (q := 2) (xs := [(.iconst 0, 1, 0, 0, .int 0), (.istore_n 1, 1, 1, 0, .null)]) (L' := [some (.ref 93), some (.int 0)]) (st' := []) (w' := w) (g := []) (K := []) (by decide +kernel) rfl rfl rfl rfl jk0 ?_
  refine ev_mask [true, true] ?_
  exact t_Model_hasParen_h2 hG jfu _ _ _ h
def f_Model_either_j190 (k9 : Int32 → Int32 → jW → Option (Int32 × jW)) (x2 : Int32) (s0 : Int32) (w : jW) : Option (Int32 × jW) :=
  Option.bind (f_Model_push s0 w) fun q9 =>
  Option.bind (f_Model_nextToken q9) fun q10 =>
  k9 0 x2 q10
set_option maxRecDepth 20000 in
theorem t_Model_either_j190 {l : Launch} {G : jG} (hG : jX G) {k9 : Int32 → Int32 → jW → Option (Int32 × jW)} (hk9 : ∀ (x1 : Int32) (x2 : Int32) (w : jW) (z : (Int32 × jW)), k9 x1 x2 w = some z → Ev l G (jrm d_Model_either 0 0) y_Model_either (some (.int z.1), jR0, z.2) 0 0 0 0 9 [some (.ref 93), some (.int x1), some (.int x2), none, none, none, none] [] jR0 w) {x2 : Int32} {s0 : Int32} {w : jW} {z : (Int32 × jW)} (h : f_Model_either_j190 k9 x2 s0 w = some z) : Ev l G (jrm d_Model_either 0 0) y_Model_either (some (.int z.1), jR0, z.2) 0 0 0 0 190 [some (.ref 93), none, some (.int x2), none, none, none, none] [.int s0, .ref 93] jR0 w := by
  rw [f_Model_either_j190] at h
  obtain ⟨q9, hq9, h⟩ := jbe h
  refine ev_callV (ci := 10) (a := 93) (y2 := y_Model_push) (o := 10) (idx := 185) (d2 := d_Model_push) (n := 1) (mc2 := 0) (ms2 := 0) (As := [.int s0]) (st := []) (res2 := (none, jR0, q9)) (by decide +kernel) rfl lk_10_185 mo_Model_push mv_Model_push ⟨Nat.le_of_ble_eq_true rfl, Nat.le_of_ble_eq_true rfl⟩ rfl rfl kz_93 (by decide) rfl (Nat.le_of_ble_eq_true rfl) ⟨Nat.le_refl _, Nat.le_refl _⟩ hG (e_Model_push hG hq9) ?_
  refine ev_seg (o := 10) (nL := 7) (q := 196) (xs := [(.iconst 0, 1, 0, 0, .int 0), (.istore_n 1, 1, 1, 0, .null), (.aload_n 0, 1, 0, 0, .null)]) (L' := [some (.ref 93), some (.int 0), some (.int x2), none, none, none, none]) (st' := [.ref 93]) (w' := q9) (g := []) (K := []) (by decide +kernel) rfl rfl rfl rfl jk0 ?_
  obtain ⟨q10, hq10, h⟩ := jbe h
  refine ev_callV (ci := 10) (a := 93) (y2 := y_Model_nextToken) (o := 10) (idx := 147) (d2 := d_Model_nextToken) (n := 0) (mc2 := 0) (ms2 := 0) (As := []) (st := []) (res2 := (none, jR0, q10)) (by decide +kernel) rfl lk_10_147 mo_Model_nextToken mv_Model_nextToken ⟨Nat.le_of_ble_eq_true rfl, Nat.le_of_ble_eq_true rfl⟩ rfl rfl kz_93 (by decide) rfl (Nat.le_of_ble_eq_true rfl) ⟨Nat.le_refl _, Nat.le_refl _⟩ hG (e_Model_nextToken hG hq10) ?_
  refine ev_seg (o := 10) (nL := 7) (q := 9) (xs := [(.goto 58, 3, 0, 0, .null), (.goto (-248), 3, 0, 0, .null)]) (L' := [some (.ref 93), some (.int 0), some (.int x2), none, none, none, none]) (st' := []) (w' := q10) (g := []) (K := []) (by decide +kernel) rfl rfl rfl rfl jk0 ?_
  refine ev_mask [true, true, true, false, false, false, false] ?_
  exact hk9 _ _ _ _ h
def f_Model_either_j174 (k9 : Int32 → Int32 → jW → Option (Int32 × jW)) (x2 : Int32) (x4 : Int32) (s0 : Int32) (w : jW) : Option (Int32 × jW) :=
  Option.bind (f_Model_settle s0 w) fun q8 =>
  if x4 = 0 then
    f_Model_either_j190 k9 x2 21 q8
  else
    f_Model_either_j190 k9 x2 22 q8
set_option maxRecDepth 20000 in
theorem t_Model_either_j174 {l : Launch} {G : jG} (hG : jX G) {k9 : Int32 → Int32 → jW → Option (Int32 × jW)} (hk9 : ∀ (x1 : Int32) (x2 : Int32) (w : jW) (z : (Int32 × jW)), k9 x1 x2 w = some z → Ev l G (jrm d_Model_either 0 0) y_Model_either (some (.int z.1), jR0, z.2) 0 0 0 0 9 [some (.ref 93), some (.int x1), some (.int x2), none, none, none, none] [] jR0 w) {x2 : Int32} {x4 : Int32} {s0 : Int32} {w : jW} {z : (Int32 × jW)} (h : f_Model_either_j174 k9 x2 x4 s0 w = some z) : Ev l G (jrm d_Model_either 0 0) y_Model_either (some (.int z.1), jR0, z.2) 0 0 0 0 174 [some (.ref 93), none, some (.int x2), none, some (.int x4), none, none] [.int s0, .ref 93] jR0 w := by
  rw [f_Model_either_j174] at h
  obtain ⟨q8, hq8, h⟩ := jbe h
  refine ev_callV (ci := 10) (a := 93) (y2 := y_Model_settle) (o := 10) (idx := 191) (d2 := d_Model_settle) (n := 1) (mc2 := 0) (ms2 := 0) (As := [.int s0]) (st := []) (res2 := (none, jR0, q8)) (by decide +kernel) rfl lk_10_191 mo_Model_settle mv_Model_settle ⟨Nat.le_of_ble_eq_true rfl, Nat.le_of_ble_eq_true rfl⟩ rfl rfl kz_93 (by decide) rfl (Nat.le_of_ble_eq_true rfl) ⟨Nat.le_refl _, Nat.le_refl _⟩ hG (e_Model_settle hG hq8) ?_
  refine ev_seg (o := 10) (nL := 7) (q := 180) (xs := [(.aload_n 0, 1, 0, 0, .null), (.iload 4, 2, 4, 0, .null)]) (L' := [some (.ref 93), none, some (.int x2), none, some (.int x4), none, none]) (st' := [.int x4, .ref 93]) (w' := q8) (g := []) (K := []) (by decide +kernel) rfl rfl rfl rfl jk0 ?_
  refine ev_if_eq (off := 8) (tgt := 188) (by decide +kernel) (by decide) (fun c11 => ?_) (fun c11 => ?_)
  · replace h := jpos c11 h
    refine ev_seg (o := 10) (nL := 7) (q := 190) (xs := [(.bipush 21, 2, 0, 0, .int 21)]) (L' := [some (.ref 93), none, some (.int x2), none, some (.int x4), none, none]) (st' := [.int 21, .ref 93]) (w' := q8) (g := []) (K := []) (by decide +kernel) rfl rfl rfl rfl jk0 ?_
    refine ev_mask [true, false, true, false, false, false, false] ?_
    exact t_Model_either_j190 hG hk9 h
  · replace h := jneg c11 h
    refine ev_seg (o := 10) (nL := 7) (q := 190) (xs := [(.bipush 22, 2, 0, 0, .int 22), (.goto 5, 3, 0, 0, .null)]) (L' := [some (.ref 93), none, some (.int x2), none, some (.int x4), none, none]) (st' := [.int 22, .ref 93]) (w' := q8) (g := []) (K := []) (by decide +kernel) rfl rfl rfl rfl jk0 ?_
    refine ev_mask [true, false, true, false, false, false, false] ?_
    exact t_Model_either_j190 hG hk9 h
def f_Model_either_j161 (k9 : Int32 → Int32 → jW → Option (Int32 × jW)) (x2 : Int32) (x4 : Int32) (w : jW) : Option (Int32 × jW) :=
  if x4 = 0 then
    f_Model_either_j174 k9 x2 x4 21 w
  else
    f_Model_either_j174 k9 x2 x4 22 w
set_option maxRecDepth 20000 in
theorem t_Model_either_j161 {l : Launch} {G : jG} (hG : jX G) {k9 : Int32 → Int32 → jW → Option (Int32 × jW)} (hk9 : ∀ (x1 : Int32) (x2 : Int32) (w : jW) (z : (Int32 × jW)), k9 x1 x2 w = some z → Ev l G (jrm d_Model_either 0 0) y_Model_either (some (.int z.1), jR0, z.2) 0 0 0 0 9 [some (.ref 93), some (.int x1), some (.int x2), none, none, none, none] [] jR0 w) {x2 : Int32} {x4 : Int32} {w : jW} {z : (Int32 × jW)} (h : f_Model_either_j161 k9 x2 x4 w = some z) : Ev l G (jrm d_Model_either 0 0) y_Model_either (some (.int z.1), jR0, z.2) 0 0 0 0 161 [some (.ref 93), none, some (.int x2), none, some (.int x4), none, none] [] jR0 w := by
  rw [f_Model_either_j161] at h
  refine ev_seg (o := 10) (nL := 7) (q := 164) (xs := [(.aload_n 0, 1, 0, 0, .null), (.iload 4, 2, 4, 0, .null)]) (L' := [some (.ref 93), none, some (.int x2), none, some (.int x4), none, none]) (st' := [.int x4, .ref 93]) (w' := w) (g := []) (K := []) (by decide +kernel) rfl rfl rfl rfl jk0 ?_
  refine ev_if_eq (off := 8) (tgt := 172) (by decide +kernel) (by decide) (fun c12 => ?_) (fun c12 => ?_)
  · replace h := jpos c12 h
    refine ev_seg (o := 10) (nL := 7) (q := 174) (xs := [(.bipush 21, 2, 0, 0, .int 21)]) (L' := [some (.ref 93), none, some (.int x2), none, some (.int x4), none, none]) (st' := [.int 21, .ref 93]) (w' := w) (g := []) (K := []) (by decide +kernel) rfl rfl rfl rfl jk0 ?_
    refine ev_mask [true, false, true, false, true, false, false] ?_
    exact t_Model_either_j174 hG hk9 h
  · replace h := jneg c12 h
    refine ev_seg (o := 10) (nL := 7) (q := 174) (xs := [(.bipush 22, 2, 0, 0, .int 22), (.goto 5, 3, 0, 0, .null)]) (L' := [some (.ref 93), none, some (.int x2), none, some (.int x4), none, none]) (st' := [.int 22, .ref 93]) (w' := w) (g := []) (K := []) (by decide +kernel) rfl rfl rfl rfl jk0 ?_
    refine ev_mask [true, false, true, false, true, false, false] ?_
    exact t_Model_either_j174 hG hk9 h
def f_Model_either_j128 (k9 : Int32 → Int32 → jW → Option (Int32 × jW)) (x1 : Int32) (x2 : Int32) (x4 : Int32) (x5 : Int32) (w : jW) : Option (Int32 × jW) :=
  if x1 = 0 then
    Option.bind (f_Model_compare w) fun q23 =>
    if q23.1 = 0 then
      k9 1 x2 q23.2
    else
      some (q23.1, q23.2)
  else
    if x4 = 0 then
      if x5 = 0 then
        if (w.1 93 9) = 41 then
          Option.bind (f_Model_hasParen w) fun q13 =>
          if q13.1 = 0 then
            k9 x1 0 q13.2
          else
            Option.bind (f_Model_settle 21 q13.2) fun q14 =>
            jlw ((jup q14.1 93 16 ((q14.1 93 16) - 1)), q14.2) fun w15 =>
            jlw ((jup w15.1 93 15 ((w15.1 93 15) - 1)), w15.2) fun w16 =>
            Option.bind (f_Model_whole1 w16) fun q17 =>
            Option.bind (f_Model_nextToken q17) fun q18 =>
            k9 x1 x2 q18
        else
          k9 x1 0 w
      else
        f_Model_either_j161 k9 x2 x4 w
    else
      f_Model_either_j161 k9 x2 x4 w
set_option maxRecDepth 20000 in
theorem t_Model_either_j128 {l : Launch} {G : jG} (hG : jX G) {k9 : Int32 → Int32 → jW → Option (Int32 × jW)} (hk9 : ∀ (x1 : Int32) (x2 : Int32) (w : jW) (z : (Int32 × jW)), k9 x1 x2 w = some z → Ev l G (jrm d_Model_either 0 0) y_Model_either (some (.int z.1), jR0, z.2) 0 0 0 0 9 [some (.ref 93), some (.int x1), some (.int x2), none, none, none, none] [] jR0 w) {x1 : Int32} {x2 : Int32} {x4 : Int32} {x5 : Int32} {w : jW} {z : (Int32 × jW)} (h : f_Model_either_j128 k9 x1 x2 x4 x5 w = some z) : Ev l G (jrm d_Model_either 0 0) y_Model_either (some (.int z.1), jR0, z.2) 0 0 0 0 128 [some (.ref 93), some (.int x1), some (.int x2), none, some (.int x4), some (.int x5), none] [] jR0 w := by
  rw [f_Model_either_j128] at h
  refine ev_seg (o := 10) (nL := 7) (q := 129) (xs := [(.iload_n 1, 1, 1, 0, .null)]) (L' := [some (.ref 93), some (.int x1), some (.int x2), none, some (.int x4), some (.int x5), none]) (st' := [.int x1]) (w' := w) (g := []) (K := []) (by decide +kernel) rfl rfl rfl rfl jk0 ?_
  refine ev_if_ne (off := 22) (tgt := 151) (by decide +kernel) (by decide) (fun c25 => ?_) (fun c25 => ?_)
  · replace h := jneg c25 h
    refine ev_seg (o := 10) (nL := 7) (q := 153) (xs := [(.iload 4, 2, 4, 0, .null)]) (L' := [some (.ref 93), some (.int x1), some (.int x2), none, some (.int x4), some (.int x5), none]) (st' := [.int x4]) (w' := w) (g := []) (K := []) (by decide +kernel) rfl rfl rfl rfl jk0 ?_
    refine ev_if_ne (off := 8) (tgt := 161) (by decide +kernel) (by decide) (fun c22 => ?_) (fun c22 => ?_)
    · replace h := jneg c22 h
      refine ev_mask [true, false, true, false, true, false, false] ?_
      exact t_Model_either_j161 hG hk9 h
    · replace h := jpos c22 h
      refine ev_seg (o := 10) (nL := 7) (q := 158) (xs := [(.iload 5, 2, 5, 0, .null)]) (L' := [some (.ref 93), some (.int x1), some (.int x2), none, some (.int x4), some (.int x5), none]) (st' := [.int x5]) (w' := w) (g := []) (K := []) (by decide +kernel) rfl rfl rfl rfl jk0 ?_
      refine ev_if_eq (off := 44) (tgt := 202) (by decide +kernel) (by decide) (fun c21 => ?_) (fun c21 => ?_)
      · replace h := jpos c21 h
        refine ev_seg (o := 10) (nL := 7) (q := 208) (xs := [(.aload_n 0, 1, 0, 0, .null), (.getfield 114, 3, 10, 9, .int 0), (.bipush 41, 2, 0, 0, .int 41)]) (L' := [some (.ref 93), some (.int x1), some (.int x2), none, some (.int x4), some (.int x5), none]) (st' := [.int 41, .int (w.1 93 9)]) (w' := w) (g := []) (K := [(93, 10)]) (by decide +kernel) rfl rfl rfl rfl (jk1 kz_93 jk0) ?_
        refine ev_icmp_ne (off := 47) (tgt := 255) (by decide +kernel) (by decide) (fun c20 => ?_) (fun c20 => ?_)
        · replace h := jneg c20 h
          refine ev_seg (o := 10) (nL := 7) (q := 9) (xs := [(.iconst 0, 1, 0, 0, .int 0), (.istore_n 2, 1, 2, 0, .null), (.goto (-248), 3, 0, 0, .null)]) (L' := [some (.ref 93), some (.int x1), some (.int 0), none, some (.int x4), some (.int x5), none]) (st' := []) (w' := w) (g := []) (K := []) (by decide +kernel) rfl rfl rfl rfl jk0 ?_
          refine ev_mask [true, true, true, false, false, false, false] ?_
          exact hk9 _ _ _ _ h
        · replace h := jpos c20 h
          refine ev_seg (o := 10) (nL := 7) (q := 212) (xs := [(.aload_n 0, 1, 0, 0, .null)]) (L' := [some (.ref 93), some (.int x1), some (.int x2), none, some (.int x4), some (.int x5), none]) (st' := [.ref 93]) (w' := w) (g := []) (K := []) (by decide +kernel) rfl rfl rfl rfl jk0 ?_
          obtain ⟨q13, hq13, h⟩ := jbe h
          refine ev_callV (ci := 10) (a := 93) (y2 := y_Model_hasParen) (o := 10) (idx := 194) (d2 := d_Model_hasParen) (n := 0) (mc2 := 0) (ms2 := 0) (As := []) (st := []) (res2 := (some (.int q13.1), jR0, q13.2)) (by decide +kernel) rfl lk_10_194 mo_Model_hasParen mv_Model_hasParen ⟨Nat.le_of_ble_eq_true rfl, Nat.le_of_ble_eq_true rfl⟩ rfl rfl kz_93 (by decide) rfl (Nat.le_of_ble_eq_true rfl) ⟨Nat.le_refl _, Nat.le_refl _⟩ hG (e_Model_hasParen hG hq13) ?_
          refine ev_if_eq (off := 40) (tgt := 255) (by decide +kernel) (by decide) (fun c19 => ?_) (fun c19 => ?_)
          · replace h := jpos c19 h
            refine ev_seg (o := 10) (nL := 7) (q := 9) (xs := [(.iconst 0, 1, 0, 0, .int 0), (.istore_n 2, 1, 2, 0, .null), (.goto (-248), 3, 0, 0, .null)]) (L' := [some (.ref 93), some (.int x1), some (.int 0), none, some (.int x4), some (.int x5), none]) (st' := []) (w' := q13.2) (g := []) (K := []) (by decide +kernel) rfl rfl rfl rfl jk0 ?_
            refine ev_mask [true, true, true, false, false, false, false] ?_
            exact hk9 _ _ _ _ h
          · replace h := jneg c19 h
            refine ev_seg (o := 10) (nL := 7) (q := 221) (xs := [(.aload_n 0, 1, 0, 0, .null), (.bipush 21, 2, 0, 0, .int 21)]) (L' := [some (.ref 93), some (.int x1), some (.int x2), none, some (.int x4), some (.int x5), none]) (st' := [.int 21, .ref 93]) (w' := q13.2) (g := []) (K := []) (by decide +kernel) rfl rfl rfl rfl jk0 ?_
            obtain ⟨q14, hq14, h⟩ := jbe h
            refine ev_callV (ci := 10) (a := 93) (y2 := y_Model_settle) (o := 10) (idx := 191) (d2 := d_Model_settle) (n := 1) (mc2 := 0) (ms2 := 0) (As := [.int 21]) (st := []) (res2 := (none, jR0, q14)) (by decide +kernel) rfl lk_10_191 mo_Model_settle mv_Model_settle ⟨Nat.le_of_ble_eq_true rfl, Nat.le_of_ble_eq_true rfl⟩ rfl rfl kz_93 (by decide) rfl (Nat.le_of_ble_eq_true rfl) ⟨Nat.le_refl _, Nat.le_refl _⟩ hG (e_Model_settle hG hq14) ?_
            refine ev_seg (o := 10) (nL := 7) (q := 234) (xs := [(.aload_n 0, 1, 0, 0, .null), (.dup, 1, 0, 0, .null), (.getfield 156, 3, 10, 16, .int 0), (.iconst 1, 1, 0, 0, .int 1), (.isub, 1, 0, 0, .null), (.putfield 156, 3, 10, 16, .int 0)]) (L' := [some (.ref 93), some (.int x1), some (.int x2), none, some (.int x4), some (.int x5), none]) (st' := []) (w' := ((jup q14.1 93 16 ((q14.1 93 16) - 1)), q14.2)) (g := []) (K := [(93, 10), (93, 10)]) (by decide +kernel) rfl rfl rfl rfl (jk1 kz_93 (jk1 kz_93 jk0)) ?_
            refine jlw_c (P := fun w15 => Ev l G (jrm d_Model_either 0 0) y_Model_either (some (.int z.1), jR0, z.2) 0 0 0 0 234 [some (.ref 93), some (.int x1), some (.int x2), none, some (.int x4), some (.int x5), none] [] jR0 w15) h fun w15 h => ?_
            refine ev_seg (o := 10) (nL := 7) (q := 244) (xs := [(.aload_n 0, 1, 0, 0, .null), (.dup, 1, 0, 0, .null), (.getfield 159, 3, 10, 15, .int 0), (.iconst 1, 1, 0, 0, .int 1), (.isub, 1, 0, 0, .null), (.putfield 159, 3, 10, 15, .int 0)]) (L' := [some (.ref 93), some (.int x1), some (.int x2), none, some (.int x4), some (.int x5), none]) (st' := []) (w' := ((jup w15.1 93 15 ((w15.1 93 15) - 1)), w15.2)) (g := []) (K := [(93, 10), (93, 10)]) (by decide +kernel) rfl rfl rfl rfl (jk1 kz_93 (jk1 kz_93 jk0)) ?_
            refine jlw_c (P := fun w16 => Ev l G (jrm d_Model_either 0 0) y_Model_either (some (.int z.1), jR0, z.2) 0 0 0 0 244 [some (.ref 93), some (.int x1), some (.int x2), none, some (.int x4), some (.int x5), none] [] jR0 w16) h fun w16 h => ?_
            refine ev_seg (o := 10) (nL := 7) (q := 245) (xs := [(.aload_n 0, 1, 0, 0, .null)]) (L' := [some (.ref 93), some (.int x1), some (.int x2), none, some (.int x4), some (.int x5), none]) (st' := [.ref 93]) (w' := w16) (g := []) (K := []) (by decide +kernel) rfl rfl rfl rfl jk0 ?_
            obtain ⟨q17, hq17, h⟩ := jbe h
            refine ev_callV (ci := 10) (a := 93) (y2 := y_Model_whole1) (o := 10) (idx := 180) (d2 := d_Model_whole1) (n := 0) (mc2 := 0) (ms2 := 0) (As := []) (st := []) (res2 := (none, jR0, q17)) (by decide +kernel) rfl lk_10_180 mo_Model_whole1 mv_Model_whole1 ⟨Nat.le_of_ble_eq_true rfl, Nat.le_of_ble_eq_true rfl⟩ rfl rfl kz_93 (by decide) rfl (Nat.le_of_ble_eq_true rfl) ⟨Nat.le_refl _, Nat.le_refl _⟩ hG (e_Model_whole1 hG hq17) ?_
            refine ev_seg (o := 10) (nL := 7) (q := 249) (xs := [(.aload_n 0, 1, 0, 0, .null)]) (L' := [some (.ref 93), some (.int x1), some (.int x2), none, some (.int x4), some (.int x5), none]) (st' := [.ref 93]) (w' := q17) (g := []) (K := []) (by decide +kernel) rfl rfl rfl rfl jk0 ?_
            obtain ⟨q18, hq18, h⟩ := jbe h
            refine ev_callV (ci := 10) (a := 93) (y2 := y_Model_nextToken) (o := 10) (idx := 147) (d2 := d_Model_nextToken) (n := 0) (mc2 := 0) (ms2 := 0) (As := []) (st := []) (res2 := (none, jR0, q18)) (by decide +kernel) rfl lk_10_147 mo_Model_nextToken mv_Model_nextToken ⟨Nat.le_of_ble_eq_true rfl, Nat.le_of_ble_eq_true rfl⟩ rfl rfl kz_93 (by decide) rfl (Nat.le_of_ble_eq_true rfl) ⟨Nat.le_refl _, Nat.le_refl _⟩ hG (e_Model_nextToken hG hq18) ?_
            refine ev_seg (o := 10) (nL := 7) (q := 9) (xs := [(.goto 5, 3, 0, 0, .null), (.goto (-248), 3, 0, 0, .null)]) (L' := [some (.ref 93), some (.int x1), some (.int x2), none, some (.int x4), some (.int x5), none]) (st' := []) (w' := q18) (g := []) (K := []) (by decide +kernel) rfl rfl rfl rfl jk0 ?_
            refine ev_mask [true, true, true, false, false, false, false] ?_
            exact hk9 _ _ _ _ h
      · replace h := jneg c21 h
        refine ev_mask [true, false, true, false, true, false, false] ?_
        exact t_Model_either_j161 hG hk9 h
  · replace h := jpos c25 h
    refine ev_seg (o := 10) (nL := 7) (q := 133) (xs := [(.aload_n 0, 1, 0, 0, .null)]) (L' := [some (.ref 93), some (.int x1), some (.int x2), none, some (.int x4), some (.int x5), none]) (st' := [.ref 93]) (w' := w) (g := []) (K := []) (by decide +kernel) rfl rfl rfl rfl jk0 ?_
    obtain ⟨q23, hq23, h⟩ := jbe h
    refine ev_callV (ci := 10) (a := 93) (y2 := y_Model_compare) (o := 10) (idx := 188) (d2 := d_Model_compare) (n := 0) (mc2 := 0) (ms2 := 0) (As := []) (st := []) (res2 := (some (.int q23.1), jR0, q23.2)) (by decide +kernel) rfl lk_10_188 mo_Model_compare mv_Model_compare ⟨Nat.le_of_ble_eq_true rfl, Nat.le_of_ble_eq_true rfl⟩ rfl rfl kz_93 (by decide) rfl (Nat.le_of_ble_eq_true rfl) ⟨Nat.le_refl _, Nat.le_refl _⟩ hG (e_Model_compare hG hq23) ?_
    refine ev_seg (o := 10) (nL := 7) (q := 140) (xs := [(.istore 6, 2, 6, 0, .null), (.iload 6, 2, 6, 0, .null)]) (L' := [some (.ref 93), some (.int x1), some (.int x2), none, some (.int x4), some (.int x5), some (.int q23.1)]) (st' := [.int q23.1]) (w' := q23.2) (g := []) (K := []) (by decide +kernel) rfl rfl rfl rfl jk0 ?_
    refine ev_if_eq (off := 6) (tgt := 146) (by decide +kernel) (by decide) (fun c24 => ?_) (fun c24 => ?_)
    · replace h := jpos c24 h
      refine ev_seg (o := 10) (nL := 7) (q := 9) (xs := [(.iconst 1, 1, 0, 0, .int 1), (.istore_n 1, 1, 1, 0, .null), (.goto 109, 3, 0, 0, .null), (.goto (-248), 3, 0, 0, .null)]) (L' := [some (.ref 93), some (.int 1), some (.int x2), none, some (.int x4), some (.int x5), some (.int q23.1)]) (st' := []) (w' := q23.2) (g := []) (K := []) (by decide +kernel) rfl rfl rfl rfl jk0 ?_
      refine ev_mask [true, true, true, false, false, false, false] ?_
      exact hk9 _ _ _ _ h
    · replace h := jneg c24 h
      refine ev_seg (o := 10) (nL := 7) (q := 145) (xs := [(.iload 6, 2, 6, 0, .null)]) (L' := [some (.ref 93), some (.int x1), some (.int x2), none, some (.int x4), some (.int x5), some (.int q23.1)]) (st' := [.int q23.1]) (w' := q23.2) (g := []) (K := []) (by decide +kernel) rfl rfl rfl rfl jk0 ?_
      cases h
      exact ev_iret (by decide +kernel) rfl rfl rfl rfl
def f_Model_either_j118 (k9 : Int32 → Int32 → jW → Option (Int32 × jW)) (x1 : Int32) (x2 : Int32) (s0 : Int32) (w : jW) : Option (Int32 × jW) :=
  Option.bind (f_Model_push s0 w) fun q27 =>
  Option.bind (f_Model_nextToken q27) fun q28 =>
  k9 x1 x2 q28
set_option maxRecDepth 20000 in
theorem t_Model_either_j118 {l : Launch} {G : jG} (hG : jX G) {k9 : Int32 → Int32 → jW → Option (Int32 × jW)} (hk9 : ∀ (x1 : Int32) (x2 : Int32) (w : jW) (z : (Int32 × jW)), k9 x1 x2 w = some z → Ev l G (jrm d_Model_either 0 0) y_Model_either (some (.int z.1), jR0, z.2) 0 0 0 0 9 [some (.ref 93), some (.int x1), some (.int x2), none, none, none, none] [] jR0 w) {x1 : Int32} {x2 : Int32} {s0 : Int32} {w : jW} {z : (Int32 × jW)} (h : f_Model_either_j118 k9 x1 x2 s0 w = some z) : Ev l G (jrm d_Model_either 0 0) y_Model_either (some (.int z.1), jR0, z.2) 0 0 0 0 118 [some (.ref 93), some (.int x1), some (.int x2), none, none, none, none] [.int s0, .ref 93] jR0 w := by
  rw [f_Model_either_j118] at h
  obtain ⟨q27, hq27, h⟩ := jbe h
  refine ev_callV (ci := 10) (a := 93) (y2 := y_Model_push) (o := 10) (idx := 185) (d2 := d_Model_push) (n := 1) (mc2 := 0) (ms2 := 0) (As := [.int s0]) (st := []) (res2 := (none, jR0, q27)) (by decide +kernel) rfl lk_10_185 mo_Model_push mv_Model_push ⟨Nat.le_of_ble_eq_true rfl, Nat.le_of_ble_eq_true rfl⟩ rfl rfl kz_93 (by decide) rfl (Nat.le_of_ble_eq_true rfl) ⟨Nat.le_refl _, Nat.le_refl _⟩ hG (e_Model_push hG hq27) ?_
  refine ev_seg (o := 10) (nL := 7) (q := 122) (xs := [(.aload_n 0, 1, 0, 0, .null)]) (L' := [some (.ref 93), some (.int x1), some (.int x2), none, none, none, none]) (st' := [.ref 93]) (w' := q27) (g := []) (K := []) (by decide +kernel) rfl rfl rfl rfl jk0 ?_
  obtain ⟨q28, hq28, h⟩ := jbe h
  refine ev_callV (ci := 10) (a := 93) (y2 := y_Model_nextToken) (o := 10) (idx := 147) (d2 := d_Model_nextToken) (n := 0) (mc2 := 0) (ms2 := 0) (As := []) (st := []) (res2 := (none, jR0, q28)) (by decide +kernel) rfl lk_10_147 mo_Model_nextToken mv_Model_nextToken ⟨Nat.le_of_ble_eq_true rfl, Nat.le_of_ble_eq_true rfl⟩ rfl rfl kz_93 (by decide) rfl (Nat.le_of_ble_eq_true rfl) ⟨Nat.le_refl _, Nat.le_refl _⟩ hG (e_Model_nextToken hG hq28) ?_
  refine ev_seg (o := 10) (nL := 7) (q := 9) (xs := [(.goto 132, 3, 0, 0, .null), (.goto (-248), 3, 0, 0, .null)]) (L' := [some (.ref 93), some (.int x1), some (.int x2), none, none, none, none]) (st' := []) (w' := q28) (g := []) (K := []) (by decide +kernel) rfl rfl rfl rfl jk0 ?_
  refine ev_mask [true, true, true, false, false, false, false] ?_
  exact hk9 _ _ _ _ h
def f_Model_either_j85 (k9 : Int32 → Int32 → jW → Option (Int32 × jW)) (x1 : Int32) (x2 : Int32) (x3 : Int32) (w : jW) : Option (Int32 × jW) :=
  if (w.1 93 15) = 8 then
    some (3, w)
  else
    jlw ((jup w.1 93 15 ((w.1 93 15) + 1)), w.2) fun w26 =>
    if x3 = 0 then
      f_Model_either_j118 k9 x1 x2 40 w26
    else
      f_Model_either_j118 k9 x1 x2 30 w26
set_option maxRecDepth 20000 in
theorem t_Model_either_j85 {l : Launch} {G : jG} (hG : jX G) {k9 : Int32 → Int32 → jW → Option (Int32 × jW)} (hk9 : ∀ (x1 : Int32) (x2 : Int32) (w : jW) (z : (Int32 × jW)), k9 x1 x2 w = some z → Ev l G (jrm d_Model_either 0 0) y_Model_either (some (.int z.1), jR0, z.2) 0 0 0 0 9 [some (.ref 93), some (.int x1), some (.int x2), none, none, none, none] [] jR0 w) {x1 : Int32} {x2 : Int32} {x3 : Int32} {w : jW} {z : (Int32 × jW)} (h : f_Model_either_j85 k9 x1 x2 x3 w = some z) : Ev l G (jrm d_Model_either 0 0) y_Model_either (some (.int z.1), jR0, z.2) 0 0 0 0 85 [some (.ref 93), some (.int x1), some (.int x2), some (.int x3), none, none, none] [] jR0 w := by
  rw [f_Model_either_j85] at h
  refine ev_seg (o := 10) (nL := 7) (q := 91) (xs := [(.aload_n 0, 1, 0, 0, .null), (.getfield 159, 3, 10, 15, .int 0), (.bipush 8, 2, 0, 0, .int 8)]) (L' := [some (.ref 93), some (.int x1), some (.int x2), some (.int x3), none, none, none]) (st' := [.int 8, .int (w.1 93 15)]) (w' := w) (g := []) (K := [(93, 10)]) (by decide +kernel) rfl rfl rfl rfl (jk1 kz_93 jk0) ?_
  refine ev_icmp_ne (off := 5) (tgt := 96) (by decide +kernel) (by decide) (fun c30 => ?_) (fun c30 => ?_)
  · replace h := jneg c30 h
    refine ev_seg (o := 10) (nL := 7) (q := 106) (xs := [(.aload_n 0, 1, 0, 0, .null), (.dup, 1, 0, 0, .null), (.getfield 159, 3, 10, 15, .int 0), (.iconst 1, 1, 0, 0, .int 1), (.iadd, 1, 0, 0, .null), (.putfield 159, 3, 10, 15, .int 0)]) (L' := [some (.ref 93), some (.int x1), some (.int x2), some (.int x3), none, none, none]) (st' := []) (w' := ((jup w.1 93 15 ((w.1 93 15) + 1)), w.2)) (g := []) (K := [(93, 10), (93, 10)]) (by decide +kernel) rfl rfl rfl rfl (jk1 kz_93 (jk1 kz_93 jk0)) ?_
    refine jlw_c (P := fun w26 => Ev l G (jrm d_Model_either 0 0) y_Model_either (some (.int z.1), jR0, z.2) 0 0 0 0 106 [some (.ref 93), some (.int x1), some (.int x2), some (.int x3), none, none, none] [] jR0 w26) h fun w26 h => ?_
    refine ev_seg (o := 10) (nL := 7) (q := 108) (xs := [(.aload_n 0, 1, 0, 0, .null), (.iload_n 3, 1, 3, 0, .null)]) (L' := [some (.ref 93), some (.int x1), some (.int x2), some (.int x3), none, none, none]) (st' := [.int x3, .ref 93]) (w' := w26) (g := []) (K := []) (by decide +kernel) rfl rfl rfl rfl jk0 ?_
    refine ev_if_eq (off := 8) (tgt := 116) (by decide +kernel) (by decide) (fun c29 => ?_) (fun c29 => ?_)
    · replace h := jpos c29 h
      refine ev_seg (o := 10) (nL := 7) (q := 118) (xs := [(.bipush 40, 2, 0, 0, .int 40)]) (L' := [some (.ref 93), some (.int x1), some (.int x2), some (.int x3), none, none, none]) (st' := [.int 40, .ref 93]) (w' := w26) (g := []) (K := []) (by decide +kernel) rfl rfl rfl rfl jk0 ?_
      refine ev_mask [true, true, true, false, false, false, false] ?_
      exact t_Model_either_j118 hG hk9 h
    · replace h := jneg c29 h
      refine ev_seg (o := 10) (nL := 7) (q := 118) (xs := [(.bipush 30, 2, 0, 0, .int 30), (.goto 5, 3, 0, 0, .null)]) (L' := [some (.ref 93), some (.int x1), some (.int x2), some (.int x3), none, none, none]) (st' := [.int 30, .ref 93]) (w' := w26) (g := []) (K := []) (by decide +kernel) rfl rfl rfl rfl jk0 ?_
      refine ev_mask [true, true, true, false, false, false, false] ?_
      exact t_Model_either_j118 hG hk9 h
  · replace h := jpos c30 h
    refine ev_seg (o := 10) (nL := 7) (q := 95) (xs := [(.iconst 3, 1, 0, 0, .int 3)]) (L' := [some (.ref 93), some (.int x1), some (.int x2), some (.int x3), none, none, none]) (st' := [.int 3]) (w' := w) (g := []) (K := []) (by decide +kernel) rfl rfl rfl rfl jk0 ?_
    cases h
    exact ev_iret (by decide +kernel) rfl rfl rfl rfl
def f_Model_either_j66 (k9 : Int32 → Int32 → jW → Option (Int32 × jW)) (x1 : Int32) (x2 : Int32) (x3 : Int32) (x4 : Int32) (s0 : Int32) (w : jW) : Option (Int32 × jW) :=
  if x1 = 0 then
    if x3 = 0 then
      if (w.1 93 9) = 40 then
        f_Model_either_j85 k9 x1 x2 x3 w
      else
        f_Model_either_j128 k9 x1 x2 x4 s0 w
    else
      f_Model_either_j85 k9 x1 x2 x3 w
  else
    f_Model_either_j128 k9 x1 x2 x4 s0 w
set_option maxRecDepth 20000 in
theorem t_Model_either_j66 {l : Launch} {G : jG} (hG : jX G) {k9 : Int32 → Int32 → jW → Option (Int32 × jW)} (hk9 : ∀ (x1 : Int32) (x2 : Int32) (w : jW) (z : (Int32 × jW)), k9 x1 x2 w = some z → Ev l G (jrm d_Model_either 0 0) y_Model_either (some (.int z.1), jR0, z.2) 0 0 0 0 9 [some (.ref 93), some (.int x1), some (.int x2), none, none, none, none] [] jR0 w) {x1 : Int32} {x2 : Int32} {x3 : Int32} {x4 : Int32} {s0 : Int32} {w : jW} {z : (Int32 × jW)} (h : f_Model_either_j66 k9 x1 x2 x3 x4 s0 w = some z) : Ev l G (jrm d_Model_either 0 0) y_Model_either (some (.int z.1), jR0, z.2) 0 0 0 0 66 [some (.ref 93), some (.int x1), some (.int x2), some (.int x3), some (.int x4), none, none] [.int s0] jR0 w := by
  rw [f_Model_either_j66] at h
  refine ev_seg (o := 10) (nL := 7) (q := 69) (xs := [(.istore 5, 2, 5, 0, .null), (.iload_n 1, 1, 1, 0, .null)]) (L' := [some (.ref 93), some (.int x1), some (.int x2), some (.int x3), some (.int x4), some (.int s0), none]) (st' := [.int x1]) (w' := w) (g := []) (K := []) (by decide +kernel) rfl rfl rfl rfl jk0 ?_
  refine ev_if_ne (off := 59) (tgt := 128) (by decide +kernel) (by decide) (fun c33 => ?_) (fun c33 => ?_)
  · replace h := jneg c33 h
    refine ev_mask [true, true, true, false, true, true, false] ?_
    exact t_Model_either_j128 hG hk9 h
  · replace h := jpos c33 h
    refine ev_seg (o := 10) (nL := 7) (q := 73) (xs := [(.iload_n 3, 1, 3, 0, .null)]) (L' := [some (.ref 93), some (.int x1), some (.int x2), some (.int x3), some (.int x4), some (.int s0), none]) (st' := [.int x3]) (w' := w) (g := []) (K := []) (by decide +kernel) rfl rfl rfl rfl jk0 ?_
    refine ev_if_ne (off := 12) (tgt := 85) (by decide +kernel) (by decide) (fun c32 => ?_) (fun c32 => ?_)
    · replace h := jneg c32 h
      refine ev_mask [true, true, true, true, false, false, false] ?_
      exact t_Model_either_j85 hG hk9 h
    · replace h := jpos c32 h
      refine ev_seg (o := 10) (nL := 7) (q := 82) (xs := [(.aload_n 0, 1, 0, 0, .null), (.getfield 114, 3, 10, 9, .int 0), (.bipush 40, 2, 0, 0, .int 40)]) (L' := [some (.ref 93), some (.int x1), some (.int x2), some (.int x3), some (.int x4), some (.int s0), none]) (st' := [.int 40, .int (w.1 93 9)]) (w' := w) (g := []) (K := [(93, 10)]) (by decide +kernel) rfl rfl rfl rfl (jk1 kz_93 jk0) ?_
      refine ev_icmp_ne (off := 46) (tgt := 128) (by decide +kernel) (by decide) (fun c31 => ?_) (fun c31 => ?_)
      · replace h := jneg c31 h
        refine ev_mask [true, true, true, false, true, true, false] ?_
        exact t_Model_either_j128 hG hk9 h
      · replace h := jpos c31 h
        refine ev_mask [true, true, true, true, false, false, false] ?_
        exact t_Model_either_j85 hG hk9 h
def f_Model_either_j65 (k9 : Int32 → Int32 → jW → Option (Int32 × jW)) (x1 : Int32) (x2 : Int32) (x3 : Int32) (x4 : Int32) (w : jW) : Option (Int32 × jW) :=
  f_Model_either_j66 k9 x1 x2 x3 x4 0 w
set_option maxRecDepth 20000 in
theorem t_Model_either_j65 {l : Launch} {G : jG} (hG : jX G) {k9 : Int32 → Int32 → jW → Option (Int32 × jW)} (hk9 : ∀ (x1 : Int32) (x2 : Int32) (w : jW) (z : (Int32 × jW)), k9 x1 x2 w = some z → Ev l G (jrm d_Model_either 0 0) y_Model_either (some (.int z.1), jR0, z.2) 0 0 0 0 9 [some (.ref 93), some (.int x1), some (.int x2), none, none, none, none] [] jR0 w) {x1 : Int32} {x2 : Int32} {x3 : Int32} {x4 : Int32} {w : jW} {z : (Int32 × jW)} (h : f_Model_either_j65 k9 x1 x2 x3 x4 w = some z) : Ev l G (jrm d_Model_either 0 0) y_Model_either (some (.int z.1), jR0, z.2) 0 0 0 0 65 [some (.ref 93), some (.int x1), some (.int x2), some (.int x3), some (.int x4), none, none] [] jR0 w := by
  rw [f_Model_either_j65] at h
  refine ev_seg (o := 10) (nL := 7) (q := 66) (xs := [(.iconst 0, 1, 0, 0, .int 0)]) (L' := [some (.ref 93), some (.int x1), some (.int x2), some (.int x3), some (.int x4), none, none]) (st' := [.int 0]) (w' := w) (g := []) (K := []) (by decide +kernel) rfl rfl rfl rfl jk0 ?_
  refine ev_mask [true, true, true, true, true, false, false] ?_
  exact t_Model_either_j66 hG hk9 h
def f_Model_either_h9 : Nat → Int32 → Int32 → jW → Option (Int32 × jW)
  | 0, _, _, _ => none
  | n + 1, x1, x2, w =>
  if x2 = 0 then
    Option.bind (f_Model_settle 21 w) fun q2 =>
    if (q2.1 93 16) ≤ 0 then
      some (0, q2)
    else
      some (1, q2)
  else
    Option.bind (f_Model_w3 110 111 116 w) fun q4 =>
    Option.bind (f_Model_isWord q4.1 q4.2) fun q5 =>
    Option.bind (f_Model_w3 97 110 100 q5.2) fun q6 =>
    Option.bind (f_Model_isWord q6.1 q6.2) fun q7 =>
    if (q7.2.1 93 9) = 2 then
      if (lg_cmp (q7.2.2 93 11) 28530) = 0 then
        f_Model_either_j66 (f_Model_either_h9 n) x1 x2 q5.1 q7.1 1 q7.2
      else
        f_Model_either_j65 (f_Model_either_h9 n) x1 x2 q5.1 q7.1 q7.2
    else
      f_Model_either_j65 (f_Model_either_h9 n) x1 x2 q5.1 q7.1 q7.2
set_option maxRecDepth 20000 in
theorem t_Model_either_h9 {l : Launch} {G : jG} (hG : jX G) : ∀ (n : Nat) (x1 : Int32) (x2 : Int32) (w : jW) (z : (Int32 × jW)), f_Model_either_h9 n x1 x2 w = some z → Ev l G (jrm d_Model_either 0 0) y_Model_either (some (.int z.1), jR0, z.2) 0 0 0 0 9 [some (.ref 93), some (.int x1), some (.int x2), none, none, none, none] [] jR0 w := by
  intro n
  induction n with
  | zero => intro x1 x2 w z h; simp only [f_Model_either_h9] at h; cases h
  | succ n ih =>
    intro x1 x2 w z h
    rw [f_Model_either_h9] at h
    refine ev_seg (o := 10) (nL := 7) (q := 10) (xs := [(.iload_n 2, 1, 2, 0, .null)]) (L' := [some (.ref 93), some (.int x1), some (.int x2), none, none, none, none]) (st' := [.int x2]) (w' := w) (g := []) (K := []) (by decide +kernel) rfl rfl rfl rfl jk0 ?_
    refine ev_if_eq (off := 250) (tgt := 260) (by decide +kernel) (by decide) (fun c36 => ?_) (fun c36 => ?_)
    · replace h := jpos c36 h
      refine ev_seg (o := 10) (nL := 7) (q := 263) (xs := [(.aload_n 0, 1, 0, 0, .null), (.bipush 21, 2, 0, 0, .int 21)]) (L' := [some (.ref 93), some (.int x1), some (.int x2), none, none, none, none]) (st' := [.int 21, .ref 93]) (w' := w) (g := []) (K := []) (by decide +kernel) rfl rfl rfl rfl jk0 ?_
      obtain ⟨q2, hq2, h⟩ := jbe h
      refine ev_callV (ci := 10) (a := 93) (y2 := y_Model_settle) (o := 10) (idx := 191) (d2 := d_Model_settle) (n := 1) (mc2 := 0) (ms2 := 0) (As := [.int 21]) (st := []) (res2 := (none, jR0, q2)) (by decide +kernel) rfl lk_10_191 mo_Model_settle mv_Model_settle ⟨Nat.le_of_ble_eq_true rfl, Nat.le_of_ble_eq_true rfl⟩ rfl rfl kz_93 (by decide) rfl (Nat.le_of_ble_eq_true rfl) ⟨Nat.le_refl _, Nat.le_refl _⟩ hG (e_Model_settle hG hq2) ?_
      refine ev_seg (o := 10) (nL := 7) (q := 270) (xs := [(.aload_n 0, 1, 0, 0, .null), (.getfield 156, 3, 10, 16, .int 0)]) (L' := [some (.ref 93), some (.int x1), some (.int x2), none, none, none, none]) (st' := [.int (q2.1 93 16)]) (w' := q2) (g := []) (K := [(93, 10)]) (by decide +kernel) rfl rfl rfl rfl (jk1 kz_93 jk0) ?_
      refine ev_if_le (off := 7) (tgt := 277) (by decide +kernel) (by decide) (fun c3 => ?_) (fun c3 => ?_)
      · replace h := jpos c3 h
        refine ev_seg (o := 10) (nL := 7) (q := 278) (xs := [(.iconst 0, 1, 0, 0, .int 0)]) (L' := [some (.ref 93), some (.int x1), some (.int x2), none, none, none, none]) (st' := [.int 0]) (w' := q2) (g := []) (K := []) (by decide +kernel) rfl rfl rfl rfl jk0 ?_
        cases h
        exact ev_iret (by decide +kernel) rfl rfl rfl rfl
      · replace h := jneg c3 h
        refine ev_seg (o := 10) (nL := 7) (q := 278) (xs := [(.iconst 1, 1, 0, 0, .int 1), (.goto 4, 3, 0, 0, .null)]) (L' := [some (.ref 93), some (.int x1), some (.int x2), none, none, none, none]) (st' := [.int 1]) (w' := q2) (g := []) (K := []) (by decide +kernel) rfl rfl rfl rfl jk0 ?_
        cases h
        exact ev_iret (by decide +kernel) rfl rfl rfl rfl
    · replace h := jneg c36 h
      refine ev_seg (o := 10) (nL := 7) (q := 20) (xs := [(.aload_n 0, 1, 0, 0, .null), (.bipush 110, 2, 0, 0, .int 110), (.bipush 111, 2, 0, 0, .int 111), (.bipush 116, 2, 0, 0, .int 116)]) (L' := [some (.ref 93), some (.int x1), some (.int x2), none, none, none, none]) (st' := [.int 116, .int 111, .int 110, .ref 93]) (w' := w) (g := []) (K := []) (by decide +kernel) rfl rfl rfl rfl jk0 ?_
      obtain ⟨q4, hq4, h⟩ := jbe h
      refine ev_callS (y2 := y_Model_w3) (o := 10) (idx := 131) (d2 := d_Model_w3) (n := 3) (mc2 := 0) (ms2 := 0) (As := [.int 110, .int 111, .int 116]) (st := [.ref 93]) (res2 := (some (.long q4.1), jR0, q4.2)) (by decide +kernel) rfl lk_10_131 mo_Model_w3 ms_Model_w3 ⟨Nat.le_of_ble_eq_true rfl, Nat.le_of_ble_eq_true rfl⟩ rfl rfl (Nat.le_of_ble_eq_true rfl) ⟨Nat.le_refl _, Nat.le_refl _⟩ hG (e_Model_w3 hG hq4) ?_
      obtain ⟨q5, hq5, h⟩ := jbe h
      refine ev_callV (ci := 10) (a := 93) (y2 := y_Model_isWord) (o := 10) (idx := 143) (d2 := d_Model_isWord) (n := 1) (mc2 := 0) (ms2 := 0) (As := [.long q4.1]) (st := []) (res2 := (some (.int q5.1), jR0, q5.2)) (by decide +kernel) rfl lk_10_143 mo_Model_isWord mv_Model_isWord ⟨Nat.le_of_ble_eq_true rfl, Nat.le_of_ble_eq_true rfl⟩ rfl rfl kz_93 (by decide) rfl (Nat.le_of_ble_eq_true rfl) ⟨Nat.le_refl _, Nat.le_refl _⟩ hG (e_Model_isWord hG hq5) ?_
      refine ev_seg (o := 10) (nL := 7) (q := 34) (xs := [(.istore_n 3, 1, 3, 0, .null), (.aload_n 0, 1, 0, 0, .null), (.bipush 97, 2, 0, 0, .int 97), (.bipush 110, 2, 0, 0, .int 110), (.bipush 100, 2, 0, 0, .int 100)]) (L' := [some (.ref 93), some (.int x1), some (.int x2), some (.int q5.1), none, none, none]) (st' := [.int 100, .int 110, .int 97, .ref 93]) (w' := q5.2) (g := []) (K := []) (by decide +kernel) rfl rfl rfl rfl jk0 ?_
      obtain ⟨q6, hq6, h⟩ := jbe h
      refine ev_callS (y2 := y_Model_w3) (o := 10) (idx := 131) (d2 := d_Model_w3) (n := 3) (mc2 := 0) (ms2 := 0) (As := [.int 97, .int 110, .int 100]) (st := [.ref 93]) (res2 := (some (.long q6.1), jR0, q6.2)) (by decide +kernel) rfl lk_10_131 mo_Model_w3 ms_Model_w3 ⟨Nat.le_of_ble_eq_true rfl, Nat.le_of_ble_eq_true rfl⟩ rfl rfl (Nat.le_of_ble_eq_true rfl) ⟨Nat.le_refl _, Nat.le_refl _⟩ hG (e_Model_w3 hG hq6) ?_
      obtain ⟨q7, hq7, h⟩ := jbe h
      refine ev_callV (ci := 10) (a := 93) (y2 := y_Model_isWord) (o := 10) (idx := 143) (d2 := d_Model_isWord) (n := 1) (mc2 := 0) (ms2 := 0) (As := [.long q6.1]) (st := []) (res2 := (some (.int q7.1), jR0, q7.2)) (by decide +kernel) rfl lk_10_143 mo_Model_isWord mv_Model_isWord ⟨Nat.le_of_ble_eq_true rfl, Nat.le_of_ble_eq_true rfl⟩ rfl rfl kz_93 (by decide) rfl (Nat.le_of_ble_eq_true rfl) ⟨Nat.le_refl _, Nat.le_refl _⟩ hG (e_Model_isWord hG hq7) ?_
      refine ev_seg (o := 10) (nL := 7) (q := 47) (xs := [(.istore 4, 2, 4, 0, .null), (.aload_n 0, 1, 0, 0, .null), (.getfield 114, 3, 10, 9, .int 0), (.iconst 2, 1, 0, 0, .int 2)]) (L' := [some (.ref 93), some (.int x1), some (.int x2), some (.int q5.1), some (.int q7.1), none, none]) (st' := [.int 2, .int (q7.2.1 93 9)]) (w' := q7.2) (g := []) (K := [(93, 10)]) (by decide +kernel) rfl rfl rfl rfl (jk1 kz_93 jk0) ?_
      refine ev_icmp_ne (off := 18) (tgt := 65) (by decide +kernel) (by decide) (fun c35 => ?_) (fun c35 => ?_)
      · replace h := jneg c35 h
        refine ev_mask [true, true, true, true, true, false, false] ?_
        exact t_Model_either_j65 hG ih h
      · replace h := jpos c35 h
        refine ev_seg (o := 10) (nL := 7) (q := 58) (xs := [(.aload_n 0, 1, 0, 0, .null), (.getfield 127, 3, 10, 11, .long 0), (.ldc2_w 183, 3, 0, 0, .long 28530), (.lcmp, 1, 0, 0, .null)]) (L' := [some (.ref 93), some (.int x1), some (.int x2), some (.int q5.1), some (.int q7.1), none, none]) (st' := [.int (lg_cmp (q7.2.2 93 11) 28530)]) (w' := q7.2) (g := []) (K := [(93, 10)]) (by decide +kernel) rfl rfl rfl rfl (jk1 kz_93 jk0) ?_
        refine ev_if_ne (off := 7) (tgt := 65) (by decide +kernel) (by decide) (fun c34 => ?_) (fun c34 => ?_)
        · replace h := jneg c34 h
          refine ev_mask [true, true, true, true, true, false, false] ?_
          exact t_Model_either_j65 hG ih h
        · replace h := jpos c34 h
          refine ev_seg (o := 10) (nL := 7) (q := 66) (xs := [(.iconst 1, 1, 0, 0, .int 1), (.goto 4, 3, 0, 0, .null)]) (L' := [some (.ref 93), some (.int x1), some (.int x2), some (.int q5.1), some (.int q7.1), none, none]) (st' := [.int 1]) (w' := q7.2) (g := []) (K := []) (by decide +kernel) rfl rfl rfl rfl jk0 ?_
          refine ev_mask [true, true, true, true, true, false, false] ?_
          exact t_Model_either_j66 hG ih h
def f_Model_either (w : jW) : Option (Int32 × jW) :=
  jlw ((jup w.1 93 16 0), w.2) fun w1 =>
  f_Model_either_h9 jfu 0 1 w1
set_option maxRecDepth 20000 in
theorem e_Model_either {l : Launch} {G : jG} (hG : jX G) {w : jW} {z : (Int32 × jW)} (h : f_Model_either w = some z) : Ct l G y_Model_either d_Model_either 0 0 [.ref 93] jR0 w (some (.int z.1), jR0, z.2) := by
  rw [f_Model_either] at h
  refine Ct.of (L := [some (.ref 93), none, none, none, none, none, none]) (by decide) (Nat.le_of_ble_eq_true rfl) rfl ?_
  refine ev_seg (o := 10) (nL := 7) (q := 5) (xs := [(.aload_n 0, 1, 0, 0, .null), (.iconst 0, 1, 0, 0, .int 0), (.putfield 156, 3, 10, 16, .int 0)]) (L' := [some (.ref 93), none, none, none, none, none, none]) (st' := []) (w' := ((jup w.1 93 16 0), w.2)) (g := []) (K := [(93, 10)]) (by decide +kernel) rfl rfl rfl rfl (jk1 kz_93 jk0) ?_
  refine jlw_c (P := fun w1 => Ev l G (jrm d_Model_either 0 0) y_Model_either (some (.int z.1), jR0, z.2) 0 0 0 0 5 [some (.ref 93), none, none, none, none, none, none] [] jR0 w1) h fun w1 h => ?_
  refine ev_seg (o := 10) (nL := 7) (q := 9) (xs := [(.iconst 0, 1, 0, 0, .int 0), (.istore_n 1, 1, 1, 0, .null), (.iconst 1, 1, 0, 0, .int 1), (.istore_n 2, 1, 2, 0, .null)]) (L' := [some (.ref 93), some (.int 0), some (.int 1), none, none, none, none]) (st' := []) (w' := w1) (g := []) (K := []) (by decide +kernel) rfl rfl rfl rfl jk0 ?_
  refine ev_mask [true, true, true, false, false, false, false] ?_
  exact t_Model_either_h9 hG jfu _ _ _ _ h
def f_Model_sortOf (w : jW) : Option (Int32 × jW) :=
  if (w.1 93 9) = 2 then
    Option.bind (f_Model_w6 99 111 117 110 116 115 w) fun q1 =>
    if (lg_cmp (w.2 93 11) q1.1) = 0 then
      some (1, q1.2)
    else
      Option.bind (f_Model_w5 108 105 109 105 116 q1.2) fun q2 =>
      if (lg_cmp (q1.2.2 93 11) q2.1) = 0 then
        some (2, q2.2)
      else
        Option.bind (f_Model_w4 116 101 108 108 q2.2) fun q3 =>
        if (lg_cmp (q2.2.2 93 11) q3.1) = 0 then
          some (3, q3.2)
        else
          Option.bind (f_Model_w6 118 105 115 105 116 115 q3.2) fun q4 =>
          if (lg_cmp (q3.2.2 93 11) q4.1) = 0 then
            some (4, q4.2)
          else
            Option.bind (f_Model_w4 118 101 105 108 q4.2) fun q5 =>
            if (lg_cmp (q4.2.2 93 11) q5.1) = 0 then
              some (5, q5.2)
            else
              Option.bind (f_Model_w5 115 116 101 112 115 q5.2) fun q6 =>
              if (lg_cmp (q5.2.2 93 11) q6.1) = 0 then
                some (6, q6.2)
              else
                Option.bind (f_Model_w6 97 110 115 119 101 114 q6.2) fun q7 =>
                if (lg_cmp (q6.2.2 93 11) q7.1) = 0 then
                  some (7, q7.2)
                else
                  some (0, q7.2)
  else
    some (0, w)
set_option maxRecDepth 20000 in
theorem e_Model_sortOf {l : Launch} {G : jG} (hG : jX G) {w : jW} {z : (Int32 × jW)} (h : f_Model_sortOf w = some z) : Ct l G y_Model_sortOf d_Model_sortOf 0 0 [.ref 93] jR0 w (some (.int z.1), jR0, z.2) := by
  rw [f_Model_sortOf] at h
  refine Ct.of (L := [some (.ref 93)]) (by decide) (Nat.le_of_ble_eq_true rfl) rfl ?_
  refine ev_seg (o := 10) (nL := 1) (q := 5) (xs := [(.aload_n 0, 1, 0, 0, .null), (.getfield 114, 3, 10, 9, .int 0), (.iconst 2, 1, 0, 0, .int 2)]) (L' := [some (.ref 93)]) (st' := [.int 2, .int (w.1 93 9)]) (w' := w) (g := []) (K := [(93, 10)]) (by decide +kernel) rfl rfl rfl rfl (jk1 kz_93 jk0) ?_
  refine ev_icmp_eq (off := 5) (tgt := 10) (by decide +kernel) (by decide) (fun c15 => ?_) (fun c15 => ?_)
  · replace h := jpos c15 h
    refine ev_seg (o := 10) (nL := 1) (q := 26) (xs := [(.aload_n 0, 1, 0, 0, .null), (.getfield 127, 3, 10, 11, .long 0), (.bipush 99, 2, 0, 0, .int 99), (.bipush 111, 2, 0, 0, .int 111), (.bipush 117, 2, 0, 0, .int 117), (.bipush 110, 2, 0, 0, .int 110), (.bipush 116, 2, 0, 0, .int 116), (.bipush 115, 2, 0, 0, .int 115)]) (L' := [some (.ref 93)]) (st' := [.int 115, .int 116, .int 110, .int 117, .int 111, .int 99, .long (w.2 93 11)]) (w' := w) (g := []) (K := [(93, 10)]) (by decide +kernel) rfl rfl rfl rfl (jk1 kz_93 jk0) ?_
    obtain ⟨q1, hq1, h⟩ := jbe h
    refine ev_callS (y2 := y_Model_w6) (o := 10) (idx := 166) (d2 := d_Model_w6) (n := 6) (mc2 := 0) (ms2 := 0) (As := [.int 99, .int 111, .int 117, .int 110, .int 116, .int 115]) (st := [.long (w.2 93 11)]) (res2 := (some (.long q1.1), jR0, q1.2)) (by decide +kernel) rfl lk_10_166 mo_Model_w6 ms_Model_w6 ⟨Nat.le_of_ble_eq_true rfl, Nat.le_of_ble_eq_true rfl⟩ rfl rfl (Nat.le_of_ble_eq_true rfl) ⟨Nat.le_refl _, Nat.le_refl _⟩ hG (e_Model_w6 hG hq1) ?_
    refine ev_seg (o := 10) (nL := 1) (q := 30) (xs := [(.lcmp, 1, 0, 0, .null)]) (L' := [some (.ref 93)]) (st' := [.int (lg_cmp (w.2 93 11) q1.1)]) (w' := q1.2) (g := []) (K := []) (by decide +kernel) rfl rfl rfl rfl jk0 ?_
    refine ev_if_ne (off := 5) (tgt := 35) (by decide +kernel) (by decide) (fun c14 => ?_) (fun c14 => ?_)
    · replace h := jneg c14 h
      refine ev_seg (o := 10) (nL := 1) (q := 49) (xs := [(.aload_n 0, 1, 0, 0, .null), (.getfield 127, 3, 10, 11, .long 0), (.bipush 108, 2, 0, 0, .int 108), (.bipush 105, 2, 0, 0, .int 105), (.bipush 109, 2, 0, 0, .int 109), (.bipush 105, 2, 0, 0, .int 105), (.bipush 116, 2, 0, 0, .int 116)]) (L' := [some (.ref 93)]) (st' := [.int 116, .int 105, .int 109, .int 105, .int 108, .long (q1.2.2 93 11)]) (w' := q1.2) (g := []) (K := [(93, 10)]) (by decide +kernel) rfl rfl rfl rfl (jk1 kz_93 jk0) ?_
      obtain ⟨q2, hq2, h⟩ := jbe h
      refine ev_callS (y2 := y_Model_w5) (o := 10) (idx := 139) (d2 := d_Model_w5) (n := 5) (mc2 := 0) (ms2 := 0) (As := [.int 108, .int 105, .int 109, .int 105, .int 116]) (st := [.long (q1.2.2 93 11)]) (res2 := (some (.long q2.1), jR0, q2.2)) (by decide +kernel) rfl lk_10_139 mo_Model_w5 ms_Model_w5 ⟨Nat.le_of_ble_eq_true rfl, Nat.le_of_ble_eq_true rfl⟩ rfl rfl (Nat.le_of_ble_eq_true rfl) ⟨Nat.le_refl _, Nat.le_refl _⟩ hG (e_Model_w5 hG hq2) ?_
      refine ev_seg (o := 10) (nL := 1) (q := 53) (xs := [(.lcmp, 1, 0, 0, .null)]) (L' := [some (.ref 93)]) (st' := [.int (lg_cmp (q1.2.2 93 11) q2.1)]) (w' := q2.2) (g := []) (K := []) (by decide +kernel) rfl rfl rfl rfl jk0 ?_
      refine ev_if_ne (off := 5) (tgt := 58) (by decide +kernel) (by decide) (fun c13 => ?_) (fun c13 => ?_)
      · replace h := jneg c13 h
        refine ev_seg (o := 10) (nL := 1) (q := 70) (xs := [(.aload_n 0, 1, 0, 0, .null), (.getfield 127, 3, 10, 11, .long 0), (.bipush 116, 2, 0, 0, .int 116), (.bipush 101, 2, 0, 0, .int 101), (.bipush 108, 2, 0, 0, .int 108), (.bipush 108, 2, 0, 0, .int 108)]) (L' := [some (.ref 93)]) (st' := [.int 108, .int 108, .int 101, .int 116, .long (q2.2.2 93 11)]) (w' := q2.2) (g := []) (K := [(93, 10)]) (by decide +kernel) rfl rfl rfl rfl (jk1 kz_93 jk0) ?_
        obtain ⟨q3, hq3, h⟩ := jbe h
        refine ev_callS (y2 := y_Model_w4) (o := 10) (idx := 135) (d2 := d_Model_w4) (n := 4) (mc2 := 0) (ms2 := 0) (As := [.int 116, .int 101, .int 108, .int 108]) (st := [.long (q2.2.2 93 11)]) (res2 := (some (.long q3.1), jR0, q3.2)) (by decide +kernel) rfl lk_10_135 mo_Model_w4 ms_Model_w4 ⟨Nat.le_of_ble_eq_true rfl, Nat.le_of_ble_eq_true rfl⟩ rfl rfl (Nat.le_of_ble_eq_true rfl) ⟨Nat.le_refl _, Nat.le_refl _⟩ hG (e_Model_w4 hG hq3) ?_
        refine ev_seg (o := 10) (nL := 1) (q := 74) (xs := [(.lcmp, 1, 0, 0, .null)]) (L' := [some (.ref 93)]) (st' := [.int (lg_cmp (q2.2.2 93 11) q3.1)]) (w' := q3.2) (g := []) (K := []) (by decide +kernel) rfl rfl rfl rfl jk0 ?_
        refine ev_if_ne (off := 5) (tgt := 79) (by decide +kernel) (by decide) (fun c12 => ?_) (fun c12 => ?_)
        · replace h := jneg c12 h
          refine ev_seg (o := 10) (nL := 1) (q := 95) (xs := [(.aload_n 0, 1, 0, 0, .null), (.getfield 127, 3, 10, 11, .long 0), (.bipush 118, 2, 0, 0, .int 118), (.bipush 105, 2, 0, 0, .int 105), (.bipush 115, 2, 0, 0, .int 115), (.bipush 105, 2, 0, 0, .int 105), (.bipush 116, 2, 0, 0, .int 116), (.bipush 115, 2, 0, 0, .int 115)]) (L' := [some (.ref 93)]) (st' := [.int 115, .int 116, .int 105, .int 115, .int 105, .int 118, .long (q3.2.2 93 11)]) (w' := q3.2) (g := []) (K := [(93, 10)]) (by decide +kernel) rfl rfl rfl rfl (jk1 kz_93 jk0) ?_
          obtain ⟨q4, hq4, h⟩ := jbe h
          refine ev_callS (y2 := y_Model_w6) (o := 10) (idx := 166) (d2 := d_Model_w6) (n := 6) (mc2 := 0) (ms2 := 0) (As := [.int 118, .int 105, .int 115, .int 105, .int 116, .int 115]) (st := [.long (q3.2.2 93 11)]) (res2 := (some (.long q4.1), jR0, q4.2)) (by decide +kernel) rfl lk_10_166 mo_Model_w6 ms_Model_w6 ⟨Nat.le_of_ble_eq_true rfl, Nat.le_of_ble_eq_true rfl⟩ rfl rfl (Nat.le_of_ble_eq_true rfl) ⟨Nat.le_refl _, Nat.le_refl _⟩ hG (e_Model_w6 hG hq4) ?_
          refine ev_seg (o := 10) (nL := 1) (q := 99) (xs := [(.lcmp, 1, 0, 0, .null)]) (L' := [some (.ref 93)]) (st' := [.int (lg_cmp (q3.2.2 93 11) q4.1)]) (w' := q4.2) (g := []) (K := []) (by decide +kernel) rfl rfl rfl rfl jk0 ?_
          refine ev_if_ne (off := 5) (tgt := 104) (by decide +kernel) (by decide) (fun c11 => ?_) (fun c11 => ?_)
          · replace h := jneg c11 h
            refine ev_seg (o := 10) (nL := 1) (q := 116) (xs := [(.aload_n 0, 1, 0, 0, .null), (.getfield 127, 3, 10, 11, .long 0), (.bipush 118, 2, 0, 0, .int 118), (.bipush 101, 2, 0, 0, .int 101), (.bipush 105, 2, 0, 0, .int 105), (.bipush 108, 2, 0, 0, .int 108)]) (L' := [some (.ref 93)]) (st' := [.int 108, .int 105, .int 101, .int 118, .long (q4.2.2 93 11)]) (w' := q4.2) (g := []) (K := [(93, 10)]) (by decide +kernel) rfl rfl rfl rfl (jk1 kz_93 jk0) ?_
            obtain ⟨q5, hq5, h⟩ := jbe h
            refine ev_callS (y2 := y_Model_w4) (o := 10) (idx := 135) (d2 := d_Model_w4) (n := 4) (mc2 := 0) (ms2 := 0) (As := [.int 118, .int 101, .int 105, .int 108]) (st := [.long (q4.2.2 93 11)]) (res2 := (some (.long q5.1), jR0, q5.2)) (by decide +kernel) rfl lk_10_135 mo_Model_w4 ms_Model_w4 ⟨Nat.le_of_ble_eq_true rfl, Nat.le_of_ble_eq_true rfl⟩ rfl rfl (Nat.le_of_ble_eq_true rfl) ⟨Nat.le_refl _, Nat.le_refl _⟩ hG (e_Model_w4 hG hq5) ?_
            refine ev_seg (o := 10) (nL := 1) (q := 120) (xs := [(.lcmp, 1, 0, 0, .null)]) (L' := [some (.ref 93)]) (st' := [.int (lg_cmp (q4.2.2 93 11) q5.1)]) (w' := q5.2) (g := []) (K := []) (by decide +kernel) rfl rfl rfl rfl jk0 ?_
            refine ev_if_ne (off := 5) (tgt := 125) (by decide +kernel) (by decide) (fun c10 => ?_) (fun c10 => ?_)
            · replace h := jneg c10 h
              refine ev_seg (o := 10) (nL := 1) (q := 139) (xs := [(.aload_n 0, 1, 0, 0, .null), (.getfield 127, 3, 10, 11, .long 0), (.bipush 115, 2, 0, 0, .int 115), (.bipush 116, 2, 0, 0, .int 116), (.bipush 101, 2, 0, 0, .int 101), (.bipush 112, 2, 0, 0, .int 112), (.bipush 115, 2, 0, 0, .int 115)]) (L' := [some (.ref 93)]) (st' := [.int 115, .int 112, .int 101, .int 116, .int 115, .long (q5.2.2 93 11)]) (w' := q5.2) (g := []) (K := [(93, 10)]) (by decide +kernel) rfl rfl rfl rfl (jk1 kz_93 jk0) ?_
              obtain ⟨q6, hq6, h⟩ := jbe h
              refine ev_callS (y2 := y_Model_w5) (o := 10) (idx := 139) (d2 := d_Model_w5) (n := 5) (mc2 := 0) (ms2 := 0) (As := [.int 115, .int 116, .int 101, .int 112, .int 115]) (st := [.long (q5.2.2 93 11)]) (res2 := (some (.long q6.1), jR0, q6.2)) (by decide +kernel) rfl lk_10_139 mo_Model_w5 ms_Model_w5 ⟨Nat.le_of_ble_eq_true rfl, Nat.le_of_ble_eq_true rfl⟩ rfl rfl (Nat.le_of_ble_eq_true rfl) ⟨Nat.le_refl _, Nat.le_refl _⟩ hG (e_Model_w5 hG hq6) ?_
              refine ev_seg (o := 10) (nL := 1) (q := 143) (xs := [(.lcmp, 1, 0, 0, .null)]) (L' := [some (.ref 93)]) (st' := [.int (lg_cmp (q5.2.2 93 11) q6.1)]) (w' := q6.2) (g := []) (K := []) (by decide +kernel) rfl rfl rfl rfl jk0 ?_
              refine ev_if_ne (off := 8) (tgt := 151) (by decide +kernel) (by decide) (fun c9 => ?_) (fun c9 => ?_)
              · replace h := jneg c9 h
                refine ev_seg (o := 10) (nL := 1) (q := 167) (xs := [(.aload_n 0, 1, 0, 0, .null), (.getfield 127, 3, 10, 11, .long 0), (.bipush 97, 2, 0, 0, .int 97), (.bipush 110, 2, 0, 0, .int 110), (.bipush 115, 2, 0, 0, .int 115), (.bipush 119, 2, 0, 0, .int 119), (.bipush 101, 2, 0, 0, .int 101), (.bipush 114, 2, 0, 0, .int 114)]) (L' := [some (.ref 93)]) (st' := [.int 114, .int 101, .int 119, .int 115, .int 110, .int 97, .long (q6.2.2 93 11)]) (w' := q6.2) (g := []) (K := [(93, 10)]) (by decide +kernel) rfl rfl rfl rfl (jk1 kz_93 jk0) ?_
                obtain ⟨q7, hq7, h⟩ := jbe h
                refine ev_callS (y2 := y_Model_w6) (o := 10) (idx := 166) (d2 := d_Model_w6) (n := 6) (mc2 := 0) (ms2 := 0) (As := [.int 97, .int 110, .int 115, .int 119, .int 101, .int 114]) (st := [.long (q6.2.2 93 11)]) (res2 := (some (.long q7.1), jR0, q7.2)) (by decide +kernel) rfl lk_10_166 mo_Model_w6 ms_Model_w6 ⟨Nat.le_of_ble_eq_true rfl, Nat.le_of_ble_eq_true rfl⟩ rfl rfl (Nat.le_of_ble_eq_true rfl) ⟨Nat.le_refl _, Nat.le_refl _⟩ hG (e_Model_w6 hG hq7) ?_
                refine ev_seg (o := 10) (nL := 1) (q := 171) (xs := [(.lcmp, 1, 0, 0, .null)]) (L' := [some (.ref 93)]) (st' := [.int (lg_cmp (q6.2.2 93 11) q7.1)]) (w' := q7.2) (g := []) (K := []) (by decide +kernel) rfl rfl rfl rfl jk0 ?_
                refine ev_if_ne (off := 8) (tgt := 179) (by decide +kernel) (by decide) (fun c8 => ?_) (fun c8 => ?_)
                · replace h := jneg c8 h
                  refine ev_seg (o := 10) (nL := 1) (q := 180) (xs := [(.iconst 0, 1, 0, 0, .int 0)]) (L' := [some (.ref 93)]) (st' := [.int 0]) (w' := q7.2) (g := []) (K := []) (by decide +kernel) rfl rfl rfl rfl jk0 ?_
                  cases h
                  exact ev_iret (by decide +kernel) rfl rfl rfl rfl
                · replace h := jpos c8 h
                  refine ev_seg (o := 10) (nL := 1) (q := 180) (xs := [(.bipush 7, 2, 0, 0, .int 7), (.goto 4, 3, 0, 0, .null)]) (L' := [some (.ref 93)]) (st' := [.int 7]) (w' := q7.2) (g := []) (K := []) (by decide +kernel) rfl rfl rfl rfl jk0 ?_
                  cases h
                  exact ev_iret (by decide +kernel) rfl rfl rfl rfl
              · replace h := jpos c9 h
                refine ev_seg (o := 10) (nL := 1) (q := 180) (xs := [(.bipush 6, 2, 0, 0, .int 6), (.goto 32, 3, 0, 0, .null)]) (L' := [some (.ref 93)]) (st' := [.int 6]) (w' := q6.2) (g := []) (K := []) (by decide +kernel) rfl rfl rfl rfl jk0 ?_
                cases h
                exact ev_iret (by decide +kernel) rfl rfl rfl rfl
            · replace h := jpos c10 h
              refine ev_seg (o := 10) (nL := 1) (q := 124) (xs := [(.iconst 5, 1, 0, 0, .int 5)]) (L' := [some (.ref 93)]) (st' := [.int 5]) (w' := q5.2) (g := []) (K := []) (by decide +kernel) rfl rfl rfl rfl jk0 ?_
              cases h
              exact ev_iret (by decide +kernel) rfl rfl rfl rfl
          · replace h := jpos c11 h
            refine ev_seg (o := 10) (nL := 1) (q := 103) (xs := [(.iconst 4, 1, 0, 0, .int 4)]) (L' := [some (.ref 93)]) (st' := [.int 4]) (w' := q4.2) (g := []) (K := []) (by decide +kernel) rfl rfl rfl rfl jk0 ?_
            cases h
            exact ev_iret (by decide +kernel) rfl rfl rfl rfl
        · replace h := jpos c12 h
          refine ev_seg (o := 10) (nL := 1) (q := 78) (xs := [(.iconst 3, 1, 0, 0, .int 3)]) (L' := [some (.ref 93)]) (st' := [.int 3]) (w' := q3.2) (g := []) (K := []) (by decide +kernel) rfl rfl rfl rfl jk0 ?_
          cases h
          exact ev_iret (by decide +kernel) rfl rfl rfl rfl
      · replace h := jpos c13 h
        refine ev_seg (o := 10) (nL := 1) (q := 57) (xs := [(.iconst 2, 1, 0, 0, .int 2)]) (L' := [some (.ref 93)]) (st' := [.int 2]) (w' := q2.2) (g := []) (K := []) (by decide +kernel) rfl rfl rfl rfl jk0 ?_
        cases h
        exact ev_iret (by decide +kernel) rfl rfl rfl rfl
    · replace h := jpos c14 h
      refine ev_seg (o := 10) (nL := 1) (q := 34) (xs := [(.iconst 1, 1, 0, 0, .int 1)]) (L' := [some (.ref 93)]) (st' := [.int 1]) (w' := q1.2) (g := []) (K := []) (by decide +kernel) rfl rfl rfl rfl jk0 ?_
      cases h
      exact ev_iret (by decide +kernel) rfl rfl rfl rfl
  · replace h := jneg c15 h
    refine ev_seg (o := 10) (nL := 1) (q := 9) (xs := [(.iconst 0, 1, 0, 0, .int 0)]) (L' := [some (.ref 93)]) (st' := [.int 0]) (w' := w) (g := []) (K := []) (by decide +kernel) rfl rfl rfl rfl jk0 ?_
    cases h
    exact ev_iret (by decide +kernel) rfl rfl rfl rfl
def f_Model_limit_j72 (x1 : Int32) (x2 : Int32) (w : jW) : Option (Int32 × jW) :=
  if x2 = 0 then
    Option.bind (f_Model_nextToken w) fun q2 =>
    if jal [jin (x1 + 2) 21000] = true then
    Option.bind (f_Model_take (q2.1 94 (Int32.toNatClampNeg (x1 + 2))) 1999 (x1 + 3) q2) fun q4 =>
    some (q4.1, q4.2)
    else none
  else
    some (x2, w)
set_option maxRecDepth 20000 in
theorem t_Model_limit_j72 {l : Launch} {G : jG} (hG : jX G) {x1 : Int32} {x2 : Int32} {w : jW} {z : (Int32 × jW)} (h : f_Model_limit_j72 x1 x2 w = some z) : Ev l G (jrm d_Model_limit 0 0) y_Model_limit (some (.int z.1), jR0, z.2) 0 0 0 0 72 [some (.ref 93), some (.int x1), some (.int x2)] [] jR0 w := by
  rw [f_Model_limit_j72] at h
  refine ev_seg (o := 10) (nL := 3) (q := 73) (xs := [(.iload_n 2, 1, 2, 0, .null)]) (L' := [some (.ref 93), some (.int x1), some (.int x2)]) (st' := [.int x2]) (w' := w) (g := []) (K := []) (by decide +kernel) rfl rfl rfl rfl jk0 ?_
  refine ev_if_eq (off := 5) (tgt := 78) (by decide +kernel) (by decide) (fun c5 => ?_) (fun c5 => ?_)
  · replace h := jpos c5 h
    refine ev_seg (o := 10) (nL := 3) (q := 79) (xs := [(.aload_n 0, 1, 0, 0, .null)]) (L' := [some (.ref 93), some (.int x1), some (.int x2)]) (st' := [.ref 93]) (w' := w) (g := []) (K := []) (by decide +kernel) rfl rfl rfl rfl jk0 ?_
    obtain ⟨q2, hq2, h⟩ := jbe h
    refine ev_callV (ci := 10) (a := 93) (y2 := y_Model_nextToken) (o := 10) (idx := 147) (d2 := d_Model_nextToken) (n := 0) (mc2 := 0) (ms2 := 0) (As := []) (st := []) (res2 := (none, jR0, q2)) (by decide +kernel) rfl lk_10_147 mo_Model_nextToken mv_Model_nextToken ⟨Nat.le_of_ble_eq_true rfl, Nat.le_of_ble_eq_true rfl⟩ rfl rfl kz_93 (by decide) rfl (Nat.le_of_ble_eq_true rfl) ⟨Nat.le_refl _, Nat.le_refl _⟩ hG (e_Model_nextToken hG hq2) ?_
    obtain ⟨hg3, h⟩ := jgd h
    refine ev_seg (o := 10) (nL := 3) (q := 97) (xs := [(.aload_n 0, 1, 0, 0, .null), (.aload_n 0, 1, 0, 0, .null), (.getfield 7, 3, 10, 0, .ref 20), (.iload_n 1, 1, 1, 0, .null), (.iconst 2, 1, 0, 0, .int 2), (.iadd, 1, 0, 0, .null), (.iaload, 1, 0, 0, .null), (.sipush 1999, 3, 0, 0, .int 1999), (.iload_n 1, 1, 1, 0, .null), (.iconst 3, 1, 0, 0, .int 3), (.iadd, 1, 0, 0, .null)]) (L' := [some (.ref 93), some (.int x1), some (.int x2)]) (st' := [.int (x1 + 3), .int 1999, .int (q2.1 94 (Int32.toNatClampNeg (x1 + 2))), .ref 93]) (w' := q2) (g := [jin (x1 + 2) 21000]) (K := [(94, 20), (94, 20), (93, 10)]) (by decide +kernel) rfl rfl rfl hg3 (jk1 kz_94 (jk1 kz_94 (jk1 kz_93 jk0))) ?_
    obtain ⟨q4, hq4, h⟩ := jbe h
    refine ev_callV (ci := 10) (a := 93) (y2 := y_Model_take) (o := 10) (idx := 198) (d2 := d_Model_take) (n := 3) (mc2 := 0) (ms2 := 0) (As := [.int (q2.1 94 (Int32.toNatClampNeg (x1 + 2))), .int 1999, .int (x1 + 3)]) (st := []) (res2 := (some (.int q4.1), jR0, q4.2)) (by decide +kernel) rfl lk_10_198 mo_Model_take mv_Model_take ⟨Nat.le_of_ble_eq_true rfl, Nat.le_of_ble_eq_true rfl⟩ rfl rfl kz_93 (by decide) rfl (Nat.le_of_ble_eq_true rfl) ⟨Nat.le_refl _, Nat.le_refl _⟩ hG (e_Model_take hG hq4) ?_
    cases h
    exact ev_iret (by decide +kernel) rfl rfl rfl rfl
  · replace h := jneg c5 h
    refine ev_seg (o := 10) (nL := 3) (q := 77) (xs := [(.iload_n 2, 1, 2, 0, .null)]) (L' := [some (.ref 93), some (.int x1), some (.int x2)]) (st' := [.int x2]) (w' := w) (g := []) (K := []) (by decide +kernel) rfl rfl rfl rfl jk0 ?_
    cases h
    exact ev_iret (by decide +kernel) rfl rfl rfl rfl
def f_Model_limit_j70 (x1 : Int32) (w : jW) : Option (Int32 × jW) :=
  f_Model_limit_j72 x1 1 w
set_option maxRecDepth 20000 in
theorem t_Model_limit_j70 {l : Launch} {G : jG} (hG : jX G) {x1 : Int32} {w : jW} {z : (Int32 × jW)} (h : f_Model_limit_j70 x1 w = some z) : Ev l G (jrm d_Model_limit 0 0) y_Model_limit (some (.int z.1), jR0, z.2) 0 0 0 0 70 [some (.ref 93), some (.int x1), none] [] jR0 w := by
  rw [f_Model_limit_j70] at h
  refine ev_seg (o := 10) (nL := 3) (q := 72) (xs := [(.iconst 1, 1, 0, 0, .int 1), (.istore_n 2, 1, 2, 0, .null)]) (L' := [some (.ref 93), some (.int x1), some (.int 1)]) (st' := []) (w' := w) (g := []) (K := []) (by decide +kernel) rfl rfl rfl rfl jk0 ?_
  refine ev_mask [true, true, true] ?_
  exact t_Model_limit_j72 hG h
def f_Model_limit_j47 (x1 : Int32) (x2 : Int32) (w : jW) : Option (Int32 × jW) :=
  if x2 = 0 then
    if (w.1 93 9) = 2 then
      if (lg_cmp (w.2 93 11) 29807) = 0 then
        f_Model_limit_j72 x1 x2 w
      else
        f_Model_limit_j70 x1 w
    else
      f_Model_limit_j70 x1 w
  else
    f_Model_limit_j72 x1 x2 w
set_option maxRecDepth 20000 in
theorem t_Model_limit_j47 {l : Launch} {G : jG} (hG : jX G) {x1 : Int32} {x2 : Int32} {w : jW} {z : (Int32 × jW)} (h : f_Model_limit_j47 x1 x2 w = some z) : Ev l G (jrm d_Model_limit 0 0) y_Model_limit (some (.int z.1), jR0, z.2) 0 0 0 0 47 [some (.ref 93), some (.int x1), some (.int x2)] [] jR0 w := by
  rw [f_Model_limit_j47] at h
  refine ev_seg (o := 10) (nL := 3) (q := 48) (xs := [(.iload_n 2, 1, 2, 0, .null)]) (L' := [some (.ref 93), some (.int x1), some (.int x2)]) (st' := [.int x2]) (w' := w) (g := []) (K := []) (by decide +kernel) rfl rfl rfl rfl jk0 ?_
  refine ev_if_ne (off := 24) (tgt := 72) (by decide +kernel) (by decide) (fun c8 => ?_) (fun c8 => ?_)
  · replace h := jneg c8 h
    refine ev_mask [true, true, true] ?_
    exact t_Model_limit_j72 hG h
  · replace h := jpos c8 h
    refine ev_seg (o := 10) (nL := 3) (q := 56) (xs := [(.aload_n 0, 1, 0, 0, .null), (.getfield 114, 3, 10, 9, .int 0), (.iconst 2, 1, 0, 0, .int 2)]) (L' := [some (.ref 93), some (.int x1), some (.int x2)]) (st' := [.int 2, .int (w.1 93 9)]) (w' := w) (g := []) (K := [(93, 10)]) (by decide +kernel) rfl rfl rfl rfl (jk1 kz_93 jk0) ?_
    refine ev_icmp_ne (off := 14) (tgt := 70) (by decide +kernel) (by decide) (fun c7 => ?_) (fun c7 => ?_)
    · replace h := jneg c7 h
      refine ev_mask [true, true, false] ?_
      exact t_Model_limit_j70 hG h
    · replace h := jpos c7 h
      refine ev_seg (o := 10) (nL := 3) (q := 67) (xs := [(.aload_n 0, 1, 0, 0, .null), (.getfield 127, 3, 10, 11, .long 0), (.ldc2_w 206, 3, 0, 0, .long 29807), (.lcmp, 1, 0, 0, .null)]) (L' := [some (.ref 93), some (.int x1), some (.int x2)]) (st' := [.int (lg_cmp (w.2 93 11) 29807)]) (w' := w) (g := []) (K := [(93, 10)]) (by decide +kernel) rfl rfl rfl rfl (jk1 kz_93 jk0) ?_
      refine ev_if_eq (off := 5) (tgt := 72) (by decide +kernel) (by decide) (fun c6 => ?_) (fun c6 => ?_)
      · replace h := jpos c6 h
        refine ev_mask [true, true, true] ?_
        exact t_Model_limit_j72 hG h
      · replace h := jneg c6 h
        refine ev_mask [true, true, false] ?_
        exact t_Model_limit_j70 hG h
def f_Model_limit_j31 (x1 : Int32) (x2 : Int32) (w : jW) : Option (Int32 × jW) :=
  if x2 = 0 then
    Option.bind (f_Model_take 0 1999 (x1 + 2) w) fun q9 =>
    f_Model_limit_j47 x1 q9.1 q9.2
  else
    f_Model_limit_j47 x1 x2 w
set_option maxRecDepth 20000 in
theorem t_Model_limit_j31 {l : Launch} {G : jG} (hG : jX G) {x1 : Int32} {x2 : Int32} {w : jW} {z : (Int32 × jW)} (h : f_Model_limit_j31 x1 x2 w = some z) : Ev l G (jrm d_Model_limit 0 0) y_Model_limit (some (.int z.1), jR0, z.2) 0 0 0 0 31 [some (.ref 93), some (.int x1), some (.int x2)] [] jR0 w := by
  rw [f_Model_limit_j31] at h
  refine ev_seg (o := 10) (nL := 3) (q := 32) (xs := [(.iload_n 2, 1, 2, 0, .null)]) (L' := [some (.ref 93), some (.int x1), some (.int x2)]) (st' := [.int x2]) (w' := w) (g := []) (K := []) (by decide +kernel) rfl rfl rfl rfl jk0 ?_
  refine ev_if_ne (off := 15) (tgt := 47) (by decide +kernel) (by decide) (fun c10 => ?_) (fun c10 => ?_)
  · replace h := jneg c10 h
    refine ev_mask [true, true, true] ?_
    exact t_Model_limit_j47 hG h
  · replace h := jpos c10 h
    refine ev_seg (o := 10) (nL := 3) (q := 43) (xs := [(.aload_n 0, 1, 0, 0, .null), (.iconst 0, 1, 0, 0, .int 0), (.sipush 1999, 3, 0, 0, .int 1999), (.iload_n 1, 1, 1, 0, .null), (.iconst 2, 1, 0, 0, .int 2), (.iadd, 1, 0, 0, .null)]) (L' := [some (.ref 93), some (.int x1), some (.int x2)]) (st' := [.int (x1 + 2), .int 1999, .int 0, .ref 93]) (w' := w) (g := []) (K := []) (by decide +kernel) rfl rfl rfl rfl jk0 ?_
    obtain ⟨q9, hq9, h⟩ := jbe h
    refine ev_callV (ci := 10) (a := 93) (y2 := y_Model_take) (o := 10) (idx := 198) (d2 := d_Model_take) (n := 3) (mc2 := 0) (ms2 := 0) (As := [.int 0, .int 1999, .int (x1 + 2)]) (st := []) (res2 := (some (.int q9.1), jR0, q9.2)) (by decide +kernel) rfl lk_10_198 mo_Model_take mv_Model_take ⟨Nat.le_of_ble_eq_true rfl, Nat.le_of_ble_eq_true rfl⟩ rfl rfl kz_93 (by decide) rfl (Nat.le_of_ble_eq_true rfl) ⟨Nat.le_refl _, Nat.le_refl _⟩ hG (e_Model_take hG hq9) ?_
    refine ev_seg (o := 10) (nL := 3) (q := 47) (xs := [(.istore_n 2, 1, 2, 0, .null)]) (L' := [some (.ref 93), some (.int x1), some (.int q9.1)]) (st' := []) (w' := q9.2) (g := []) (K := []) (by decide +kernel) rfl rfl rfl rfl jk0 ?_
    refine ev_mask [true, true, true] ?_
    exact t_Model_limit_j47 hG h
def f_Model_limit (x1 : Int32) (w : jW) : Option (Int32 × jW) :=
  Option.bind (f_Model_take 0 99 (x1 + 1) w) fun q1 =>
  if q1.1 = 0 then
    Option.bind (f_Model_w4 102 114 111 109 q1.2) fun q11 =>
    Option.bind (f_Model_need q11.1 q11.2) fun q12 =>
    f_Model_limit_j31 x1 q12.1 q12.2
  else
    f_Model_limit_j31 x1 q1.1 q1.2
set_option maxRecDepth 20000 in
theorem e_Model_limit {l : Launch} {G : jG} (hG : jX G) {x1 : Int32} {w : jW} {z : (Int32 × jW)} (h : f_Model_limit x1 w = some z) : Ct l G y_Model_limit d_Model_limit 0 0 [.ref 93, .int x1] jR0 w (some (.int z.1), jR0, z.2) := by
  rw [f_Model_limit] at h
  refine Ct.of (L := [some (.ref 93), some (.int x1), none]) (by decide) (Nat.le_of_ble_eq_true rfl) rfl ?_
  refine ev_seg (o := 10) (nL := 3) (q := 7) (xs := [(.aload_n 0, 1, 0, 0, .null), (.iconst 0, 1, 0, 0, .int 0), (.bipush 99, 2, 0, 0, .int 99), (.iload_n 1, 1, 1, 0, .null), (.iconst 1, 1, 0, 0, .int 1), (.iadd, 1, 0, 0, .null)]) (L' := [some (.ref 93), some (.int x1), none]) (st' := [.int (x1 + 1), .int 99, .int 0, .ref 93]) (w' := w) (g := []) (K := []) (by decide +kernel) rfl rfl rfl rfl jk0 ?_
  obtain ⟨q1, hq1, h⟩ := jbe h
  refine ev_callV (ci := 10) (a := 93) (y2 := y_Model_take) (o := 10) (idx := 198) (d2 := d_Model_take) (n := 3) (mc2 := 0) (ms2 := 0) (As := [.int 0, .int 99, .int (x1 + 1)]) (st := []) (res2 := (some (.int q1.1), jR0, q1.2)) (by decide +kernel) rfl lk_10_198 mo_Model_take mv_Model_take ⟨Nat.le_of_ble_eq_true rfl, Nat.le_of_ble_eq_true rfl⟩ rfl rfl kz_93 (by decide) rfl (Nat.le_of_ble_eq_true rfl) ⟨Nat.le_refl _, Nat.le_refl _⟩ hG (e_Model_take hG hq1) ?_
  refine ev_seg (o := 10) (nL := 3) (q := 12) (xs := [(.istore_n 2, 1, 2, 0, .null), (.iload_n 2, 1, 2, 0, .null)]) (L' := [some (.ref 93), some (.int x1), some (.int q1.1)]) (st' := [.int q1.1]) (w' := q1.2) (g := []) (K := []) (by decide +kernel) rfl rfl rfl rfl jk0 ?_
  refine ev_if_ne (off := 19) (tgt := 31) (by decide +kernel) (by decide) (fun c13 => ?_) (fun c13 => ?_)
  · replace h := jneg c13 h
    refine ev_mask [true, true, true] ?_
    exact t_Model_limit_j31 hG h
  · replace h := jpos c13 h
    refine ev_seg (o := 10) (nL := 3) (q := 24) (xs := [(.aload_n 0, 1, 0, 0, .null), (.bipush 102, 2, 0, 0, .int 102), (.bipush 114, 2, 0, 0, .int 114), (.bipush 111, 2, 0, 0, .int 111), (.bipush 109, 2, 0, 0, .int 109)]) (L' := [some (.ref 93), some (.int x1), some (.int q1.1)]) (st' := [.int 109, .int 111, .int 114, .int 102, .ref 93]) (w' := q1.2) (g := []) (K := []) (by decide +kernel) rfl rfl rfl rfl jk0 ?_
    obtain ⟨q11, hq11, h⟩ := jbe h
    refine ev_callS (y2 := y_Model_w4) (o := 10) (idx := 135) (d2 := d_Model_w4) (n := 4) (mc2 := 0) (ms2 := 0) (As := [.int 102, .int 114, .int 111, .int 109]) (st := [.ref 93]) (res2 := (some (.long q11.1), jR0, q11.2)) (by decide +kernel) rfl lk_10_135 mo_Model_w4 ms_Model_w4 ⟨Nat.le_of_ble_eq_true rfl, Nat.le_of_ble_eq_true rfl⟩ rfl rfl (Nat.le_of_ble_eq_true rfl) ⟨Nat.le_refl _, Nat.le_refl _⟩ hG (e_Model_w4 hG hq11) ?_
    obtain ⟨q12, hq12, h⟩ := jbe h
    refine ev_callV (ci := 10) (a := 93) (y2 := y_Model_need) (o := 10) (idx := 202) (d2 := d_Model_need) (n := 1) (mc2 := 0) (ms2 := 0) (As := [.long q11.1]) (st := []) (res2 := (some (.int q12.1), jR0, q12.2)) (by decide +kernel) rfl lk_10_202 mo_Model_need mv_Model_need ⟨Nat.le_of_ble_eq_true rfl, Nat.le_of_ble_eq_true rfl⟩ rfl rfl kz_93 (by decide) rfl (Nat.le_of_ble_eq_true rfl) ⟨Nat.le_refl _, Nat.le_refl _⟩ hG (e_Model_need hG hq12) ?_
    refine ev_seg (o := 10) (nL := 3) (q := 31) (xs := [(.istore_n 2, 1, 2, 0, .null)]) (L' := [some (.ref 93), some (.int x1), some (.int q12.1)]) (st' := []) (w' := q12.2) (g := []) (K := []) (by decide +kernel) rfl rfl rfl rfl jk0 ?_
    refine ev_mask [true, true, true] ?_
    exact t_Model_limit_j31 hG h
def f_Model_stepping_j31 (x1 : Int32) (x2 : Int32) (w : jW) : Option (Int32 × jW) :=
  if x2 = 0 then
    Option.bind (f_Model_take 0 99 (x1 + 2) w) fun q2 =>
    some (q2.1, q2.2)
  else
    some (x2, w)
set_option maxRecDepth 20000 in
theorem t_Model_stepping_j31 {l : Launch} {G : jG} (hG : jX G) {x1 : Int32} {x2 : Int32} {w : jW} {z : (Int32 × jW)} (h : f_Model_stepping_j31 x1 x2 w = some z) : Ev l G (jrm d_Model_stepping 0 0) y_Model_stepping (some (.int z.1), jR0, z.2) 0 0 0 0 31 [some (.ref 93), some (.int x1), some (.int x2)] [] jR0 w := by
  rw [f_Model_stepping_j31] at h
  refine ev_seg (o := 10) (nL := 3) (q := 32) (xs := [(.iload_n 2, 1, 2, 0, .null)]) (L' := [some (.ref 93), some (.int x1), some (.int x2)]) (st' := [.int x2]) (w' := w) (g := []) (K := []) (by decide +kernel) rfl rfl rfl rfl jk0 ?_
  refine ev_if_ne (off := 16) (tgt := 48) (by decide +kernel) (by decide) (fun c3 => ?_) (fun c3 => ?_)
  · replace h := jneg c3 h
    refine ev_seg (o := 10) (nL := 3) (q := 49) (xs := [(.iload_n 2, 1, 2, 0, .null)]) (L' := [some (.ref 93), some (.int x1), some (.int x2)]) (st' := [.int x2]) (w' := w) (g := []) (K := []) (by decide +kernel) rfl rfl rfl rfl jk0 ?_
    cases h
    exact ev_iret (by decide +kernel) rfl rfl rfl rfl
  · replace h := jpos c3 h
    refine ev_seg (o := 10) (nL := 3) (q := 42) (xs := [(.aload_n 0, 1, 0, 0, .null), (.iconst 0, 1, 0, 0, .int 0), (.bipush 99, 2, 0, 0, .int 99), (.iload_n 1, 1, 1, 0, .null), (.iconst 2, 1, 0, 0, .int 2), (.iadd, 1, 0, 0, .null)]) (L' := [some (.ref 93), some (.int x1), some (.int x2)]) (st' := [.int (x1 + 2), .int 99, .int 0, .ref 93]) (w' := w) (g := []) (K := []) (by decide +kernel) rfl rfl rfl rfl jk0 ?_
    obtain ⟨q2, hq2, h⟩ := jbe h
    refine ev_callV (ci := 10) (a := 93) (y2 := y_Model_take) (o := 10) (idx := 198) (d2 := d_Model_take) (n := 3) (mc2 := 0) (ms2 := 0) (As := [.int 0, .int 99, .int (x1 + 2)]) (st := []) (res2 := (some (.int q2.1), jR0, q2.2)) (by decide +kernel) rfl lk_10_198 mo_Model_take mv_Model_take ⟨Nat.le_of_ble_eq_true rfl, Nat.le_of_ble_eq_true rfl⟩ rfl rfl kz_93 (by decide) rfl (Nat.le_of_ble_eq_true rfl) ⟨Nat.le_refl _, Nat.le_refl _⟩ hG (e_Model_take hG hq2) ?_
    refine ev_seg (o := 10) (nL := 3) (q := 49) (xs := [(.goto 4, 3, 0, 0, .null)]) (L' := [some (.ref 93), some (.int x1), some (.int x2)]) (st' := [.int q2.1]) (w' := q2.2) (g := []) (K := []) (by decide +kernel) rfl rfl rfl rfl jk0 ?_
    cases h
    exact ev_iret (by decide +kernel) rfl rfl rfl rfl
def f_Model_stepping (x1 : Int32) (w : jW) : Option (Int32 × jW) :=
  Option.bind (f_Model_take 1 9 (x1 + 1) w) fun q1 =>
  if q1.1 = 0 then
    Option.bind (f_Model_w4 119 97 105 116 q1.2) fun q4 =>
    Option.bind (f_Model_need q4.1 q4.2) fun q5 =>
    f_Model_stepping_j31 x1 q5.1 q5.2
  else
    f_Model_stepping_j31 x1 q1.1 q1.2
set_option maxRecDepth 20000 in
theorem e_Model_stepping {l : Launch} {G : jG} (hG : jX G) {x1 : Int32} {w : jW} {z : (Int32 × jW)} (h : f_Model_stepping x1 w = some z) : Ct l G y_Model_stepping d_Model_stepping 0 0 [.ref 93, .int x1] jR0 w (some (.int z.1), jR0, z.2) := by
  rw [f_Model_stepping] at h
  refine Ct.of (L := [some (.ref 93), some (.int x1), none]) (by decide) (Nat.le_of_ble_eq_true rfl) rfl ?_
  refine ev_seg (o := 10) (nL := 3) (q := 7) (xs := [(.aload_n 0, 1, 0, 0, .null), (.iconst 1, 1, 0, 0, .int 1), (.bipush 9, 2, 0, 0, .int 9), (.iload_n 1, 1, 1, 0, .null), (.iconst 1, 1, 0, 0, .int 1), (.iadd, 1, 0, 0, .null)]) (L' := [some (.ref 93), some (.int x1), none]) (st' := [.int (x1 + 1), .int 9, .int 1, .ref 93]) (w' := w) (g := []) (K := []) (by decide +kernel) rfl rfl rfl rfl jk0 ?_
  obtain ⟨q1, hq1, h⟩ := jbe h
  refine ev_callV (ci := 10) (a := 93) (y2 := y_Model_take) (o := 10) (idx := 198) (d2 := d_Model_take) (n := 3) (mc2 := 0) (ms2 := 0) (As := [.int 1, .int 9, .int (x1 + 1)]) (st := []) (res2 := (some (.int q1.1), jR0, q1.2)) (by decide +kernel) rfl lk_10_198 mo_Model_take mv_Model_take ⟨Nat.le_of_ble_eq_true rfl, Nat.le_of_ble_eq_true rfl⟩ rfl rfl kz_93 (by decide) rfl (Nat.le_of_ble_eq_true rfl) ⟨Nat.le_refl _, Nat.le_refl _⟩ hG (e_Model_take hG hq1) ?_
  refine ev_seg (o := 10) (nL := 3) (q := 12) (xs := [(.istore_n 2, 1, 2, 0, .null), (.iload_n 2, 1, 2, 0, .null)]) (L' := [some (.ref 93), some (.int x1), some (.int q1.1)]) (st' := [.int q1.1]) (w' := q1.2) (g := []) (K := []) (by decide +kernel) rfl rfl rfl rfl jk0 ?_
  refine ev_if_ne (off := 19) (tgt := 31) (by decide +kernel) (by decide) (fun c6 => ?_) (fun c6 => ?_)
  · replace h := jneg c6 h
    refine ev_mask [true, true, true] ?_
    exact t_Model_stepping_j31 hG h
  · replace h := jpos c6 h
    refine ev_seg (o := 10) (nL := 3) (q := 24) (xs := [(.aload_n 0, 1, 0, 0, .null), (.bipush 119, 2, 0, 0, .int 119), (.bipush 97, 2, 0, 0, .int 97), (.bipush 105, 2, 0, 0, .int 105), (.bipush 116, 2, 0, 0, .int 116)]) (L' := [some (.ref 93), some (.int x1), some (.int q1.1)]) (st' := [.int 116, .int 105, .int 97, .int 119, .ref 93]) (w' := q1.2) (g := []) (K := []) (by decide +kernel) rfl rfl rfl rfl jk0 ?_
    obtain ⟨q4, hq4, h⟩ := jbe h
    refine ev_callS (y2 := y_Model_w4) (o := 10) (idx := 135) (d2 := d_Model_w4) (n := 4) (mc2 := 0) (ms2 := 0) (As := [.int 119, .int 97, .int 105, .int 116]) (st := [.ref 93]) (res2 := (some (.long q4.1), jR0, q4.2)) (by decide +kernel) rfl lk_10_135 mo_Model_w4 ms_Model_w4 ⟨Nat.le_of_ble_eq_true rfl, Nat.le_of_ble_eq_true rfl⟩ rfl rfl (Nat.le_of_ble_eq_true rfl) ⟨Nat.le_refl _, Nat.le_refl _⟩ hG (e_Model_w4 hG hq4) ?_
    obtain ⟨q5, hq5, h⟩ := jbe h
    refine ev_callV (ci := 10) (a := 93) (y2 := y_Model_need) (o := 10) (idx := 202) (d2 := d_Model_need) (n := 1) (mc2 := 0) (ms2 := 0) (As := [.long q4.1]) (st := []) (res2 := (some (.int q5.1), jR0, q5.2)) (by decide +kernel) rfl lk_10_202 mo_Model_need mv_Model_need ⟨Nat.le_of_ble_eq_true rfl, Nat.le_of_ble_eq_true rfl⟩ rfl rfl kz_93 (by decide) rfl (Nat.le_of_ble_eq_true rfl) ⟨Nat.le_refl _, Nat.le_refl _⟩ hG (e_Model_need hG hq5) ?_
    refine ev_seg (o := 10) (nL := 3) (q := 31) (xs := [(.istore_n 2, 1, 2, 0, .null)]) (L' := [some (.ref 93), some (.int x1), some (.int q5.1)]) (st' := []) (w' := q5.2) (g := []) (K := []) (by decide +kernel) rfl rfl rfl rfl jk0 ?_
    refine ev_mask [true, true, true] ?_
    exact t_Model_stepping_j31 hG h
def f_Model_clause_j151 (x3 : Int32) (w : jW) : Option (Int32 × jW) :=
  if x3 = 0 then
    if (w.1 93 9) = 59 then
      jlw ((jup w.1 93 13 ((w.1 93 13) + 1)), w.2) fun w11 =>
      Option.bind (f_Model_nextToken w11) fun q12 =>
      some (0, q12)
    else
      some (1, w)
  else
    some (x3, w)
set_option maxRecDepth 20000 in
theorem t_Model_clause_j151 {l : Launch} {G : jG} (hG : jX G) {x3 : Int32} {w : jW} {z : (Int32 × jW)} (h : f_Model_clause_j151 x3 w = some z) : Ev l G (jrm d_Model_clause 0 0) y_Model_clause (some (.int z.1), jR0, z.2) 0 0 0 0 151 [some (.ref 93), none, none, some (.int x3)] [] jR0 w := by
  rw [f_Model_clause_j151] at h
  refine ev_seg (o := 10) (nL := 4) (q := 152) (xs := [(.iload_n 3, 1, 3, 0, .null)]) (L' := [some (.ref 93), none, none, some (.int x3)]) (st' := [.int x3]) (w' := w) (g := []) (K := []) (by decide +kernel) rfl rfl rfl rfl jk0 ?_
  refine ev_if_eq (off := 5) (tgt := 157) (by decide +kernel) (by decide) (fun c14 => ?_) (fun c14 => ?_)
  · replace h := jpos c14 h
    refine ev_seg (o := 10) (nL := 4) (q := 163) (xs := [(.aload_n 0, 1, 0, 0, .null), (.getfield 114, 3, 10, 9, .int 0), (.bipush 59, 2, 0, 0, .int 59)]) (L' := [some (.ref 93), none, none, some (.int x3)]) (st' := [.int 59, .int (w.1 93 9)]) (w' := w) (g := []) (K := [(93, 10)]) (by decide +kernel) rfl rfl rfl rfl (jk1 kz_93 jk0) ?_
    refine ev_icmp_eq (off := 5) (tgt := 168) (by decide +kernel) (by decide) (fun c13 => ?_) (fun c13 => ?_)
    · replace h := jpos c13 h
      refine ev_seg (o := 10) (nL := 4) (q := 178) (xs := [(.aload_n 0, 1, 0, 0, .null), (.dup, 1, 0, 0, .null), (.getfield 211, 3, 10, 13, .int 0), (.iconst 1, 1, 0, 0, .int 1), (.iadd, 1, 0, 0, .null), (.putfield 211, 3, 10, 13, .int 0)]) (L' := [some (.ref 93), none, none, some (.int x3)]) (st' := []) (w' := ((jup w.1 93 13 ((w.1 93 13) + 1)), w.2)) (g := []) (K := [(93, 10), (93, 10)]) (by decide +kernel) rfl rfl rfl rfl (jk1 kz_93 (jk1 kz_93 jk0)) ?_
      refine jlw_c (P := fun w11 => Ev l G (jrm d_Model_clause 0 0) y_Model_clause (some (.int z.1), jR0, z.2) 0 0 0 0 178 [some (.ref 93), none, none, some (.int x3)] [] jR0 w11) h fun w11 h => ?_
      refine ev_seg (o := 10) (nL := 4) (q := 179) (xs := [(.aload_n 0, 1, 0, 0, .null)]) (L' := [some (.ref 93), none, none, some (.int x3)]) (st' := [.ref 93]) (w' := w11) (g := []) (K := []) (by decide +kernel) rfl rfl rfl rfl jk0 ?_
      obtain ⟨q12, hq12, h⟩ := jbe h
      refine ev_callV (ci := 10) (a := 93) (y2 := y_Model_nextToken) (o := 10) (idx := 147) (d2 := d_Model_nextToken) (n := 0) (mc2 := 0) (ms2 := 0) (As := []) (st := []) (res2 := (none, jR0, q12)) (by decide +kernel) rfl lk_10_147 mo_Model_nextToken mv_Model_nextToken ⟨Nat.le_of_ble_eq_true rfl, Nat.le_of_ble_eq_true rfl⟩ rfl rfl kz_93 (by decide) rfl (Nat.le_of_ble_eq_true rfl) ⟨Nat.le_refl _, Nat.le_refl _⟩ hG (e_Model_nextToken hG hq12) ?_
      refine ev_seg (o := 10) (nL := 4) (q := 183) (xs := [(.iconst 0, 1, 0, 0, .int 0)]) (L' := [some (.ref 93), none, none, some (.int x3)]) (st' := [.int 0]) (w' := q12) (g := []) (K := []) (by decide +kernel) rfl rfl rfl rfl jk0 ?_
      cases h
      exact ev_iret (by decide +kernel) rfl rfl rfl rfl
    · replace h := jneg c13 h
      refine ev_seg (o := 10) (nL := 4) (q := 167) (xs := [(.iconst 1, 1, 0, 0, .int 1)]) (L' := [some (.ref 93), none, none, some (.int x3)]) (st' := [.int 1]) (w' := w) (g := []) (K := []) (by decide +kernel) rfl rfl rfl rfl jk0 ?_
      cases h
      exact ev_iret (by decide +kernel) rfl rfl rfl rfl
  · replace h := jneg c14 h
    refine ev_seg (o := 10) (nL := 4) (q := 156) (xs := [(.iload_n 3, 1, 3, 0, .null)]) (L' := [some (.ref 93), none, none, some (.int x3)]) (st' := [.int x3]) (w' := w) (g := []) (K := []) (by decide +kernel) rfl rfl rfl rfl jk0 ?_
    cases h
    exact ev_iret (by decide +kernel) rfl rfl rfl rfl
def f_Model_clause_j139 (x1 : Int32) (x2 : Int32) (x3 : Int32) (w : jW) : Option (Int32 × jW) :=
  if x1 = 6 then
    Option.bind (f_Model_stepping x2 w) fun q15 =>
    f_Model_clause_j151 q15.1 q15.2
  else
    f_Model_clause_j151 x3 w
set_option maxRecDepth 20000 in
theorem t_Model_clause_j139 {l : Launch} {G : jG} (hG : jX G) {x1 : Int32} {x2 : Int32} {x3 : Int32} {w : jW} {z : (Int32 × jW)} (h : f_Model_clause_j139 x1 x2 x3 w = some z) : Ev l G (jrm d_Model_clause 0 0) y_Model_clause (some (.int z.1), jR0, z.2) 0 0 0 0 139 [some (.ref 93), some (.int x1), some (.int x2), some (.int x3)] [] jR0 w := by
  rw [f_Model_clause_j139] at h
  refine ev_seg (o := 10) (nL := 4) (q := 142) (xs := [(.iload_n 1, 1, 1, 0, .null), (.bipush 6, 2, 0, 0, .int 6)]) (L' := [some (.ref 93), some (.int x1), some (.int x2), some (.int x3)]) (st' := [.int 6, .int x1]) (w' := w) (g := []) (K := []) (by decide +kernel) rfl rfl rfl rfl jk0 ?_
  refine ev_icmp_ne (off := 9) (tgt := 151) (by decide +kernel) (by decide) (fun c16 => ?_) (fun c16 => ?_)
  · replace h := jneg c16 h
    refine ev_mask [true, false, false, true] ?_
    exact t_Model_clause_j151 hG h
  · replace h := jpos c16 h
    refine ev_seg (o := 10) (nL := 4) (q := 147) (xs := [(.aload_n 0, 1, 0, 0, .null), (.iload_n 2, 1, 2, 0, .null)]) (L' := [some (.ref 93), some (.int x1), some (.int x2), some (.int x3)]) (st' := [.int x2, .ref 93]) (w' := w) (g := []) (K := []) (by decide +kernel) rfl rfl rfl rfl jk0 ?_
    obtain ⟨q15, hq15, h⟩ := jbe h
    refine ev_callV (ci := 10) (a := 93) (y2 := y_Model_stepping) (o := 10) (idx := 220) (d2 := d_Model_stepping) (n := 1) (mc2 := 0) (ms2 := 0) (As := [.int x2]) (st := []) (res2 := (some (.int q15.1), jR0, q15.2)) (by decide +kernel) rfl lk_10_220 mo_Model_stepping mv_Model_stepping ⟨Nat.le_of_ble_eq_true rfl, Nat.le_of_ble_eq_true rfl⟩ rfl rfl kz_93 (by decide) rfl (Nat.le_of_ble_eq_true rfl) ⟨Nat.le_refl _, Nat.le_refl _⟩ hG (e_Model_stepping hG hq15) ?_
    refine ev_seg (o := 10) (nL := 4) (q := 151) (xs := [(.istore_n 3, 1, 3, 0, .null)]) (L' := [some (.ref 93), some (.int x1), some (.int x2), some (.int q15.1)]) (st' := []) (w' := q15.2) (g := []) (K := []) (by decide +kernel) rfl rfl rfl rfl jk0 ?_
    refine ev_mask [true, false, false, true] ?_
    exact t_Model_clause_j151 hG h
def f_Model_clause_j123 (x1 : Int32) (x2 : Int32) (x3 : Int32) (w : jW) : Option (Int32 × jW) :=
  if x1 = 4 then
    Option.bind (f_Model_take 0 99 (x2 + 1) w) fun q17 =>
    f_Model_clause_j139 x1 x2 q17.1 q17.2
  else
    f_Model_clause_j139 x1 x2 x3 w
set_option maxRecDepth 20000 in
theorem t_Model_clause_j123 {l : Launch} {G : jG} (hG : jX G) {x1 : Int32} {x2 : Int32} {x3 : Int32} {w : jW} {z : (Int32 × jW)} (h : f_Model_clause_j123 x1 x2 x3 w = some z) : Ev l G (jrm d_Model_clause 0 0) y_Model_clause (some (.int z.1), jR0, z.2) 0 0 0 0 123 [some (.ref 93), some (.int x1), some (.int x2), some (.int x3)] [] jR0 w := by
  rw [f_Model_clause_j123] at h
  refine ev_seg (o := 10) (nL := 4) (q := 125) (xs := [(.iload_n 1, 1, 1, 0, .null), (.iconst 4, 1, 0, 0, .int 4)]) (L' := [some (.ref 93), some (.int x1), some (.int x2), some (.int x3)]) (st' := [.int 4, .int x1]) (w' := w) (g := []) (K := []) (by decide +kernel) rfl rfl rfl rfl jk0 ?_
  refine ev_icmp_ne (off := 14) (tgt := 139) (by decide +kernel) (by decide) (fun c18 => ?_) (fun c18 => ?_)
  · replace h := jneg c18 h
    refine ev_mask [true, true, true, true] ?_
    exact t_Model_clause_j139 hG h
  · replace h := jpos c18 h
    refine ev_seg (o := 10) (nL := 4) (q := 135) (xs := [(.aload_n 0, 1, 0, 0, .null), (.iconst 0, 1, 0, 0, .int 0), (.bipush 99, 2, 0, 0, .int 99), (.iload_n 2, 1, 2, 0, .null), (.iconst 1, 1, 0, 0, .int 1), (.iadd, 1, 0, 0, .null)]) (L' := [some (.ref 93), some (.int x1), some (.int x2), some (.int x3)]) (st' := [.int (x2 + 1), .int 99, .int 0, .ref 93]) (w' := w) (g := []) (K := []) (by decide +kernel) rfl rfl rfl rfl jk0 ?_
    obtain ⟨q17, hq17, h⟩ := jbe h
    refine ev_callV (ci := 10) (a := 93) (y2 := y_Model_take) (o := 10) (idx := 198) (d2 := d_Model_take) (n := 3) (mc2 := 0) (ms2 := 0) (As := [.int 0, .int 99, .int (x2 + 1)]) (st := []) (res2 := (some (.int q17.1), jR0, q17.2)) (by decide +kernel) rfl lk_10_198 mo_Model_take mv_Model_take ⟨Nat.le_of_ble_eq_true rfl, Nat.le_of_ble_eq_true rfl⟩ rfl rfl kz_93 (by decide) rfl (Nat.le_of_ble_eq_true rfl) ⟨Nat.le_refl _, Nat.le_refl _⟩ hG (e_Model_take hG hq17) ?_
    refine ev_seg (o := 10) (nL := 4) (q := 139) (xs := [(.istore_n 3, 1, 3, 0, .null)]) (L' := [some (.ref 93), some (.int x1), some (.int x2), some (.int q17.1)]) (st' := []) (w' := q17.2) (g := []) (K := []) (by decide +kernel) rfl rfl rfl rfl jk0 ?_
    refine ev_mask [true, true, true, true] ?_
    exact t_Model_clause_j139 hG h
def f_Model_clause_j111 (x1 : Int32) (x2 : Int32) (w : jW) : Option (Int32 × jW) :=
  Option.bind (f_Model_take 0 360 (x2 + 1) w) fun q10 =>
  f_Model_clause_j123 x1 x2 q10.1 q10.2
set_option maxRecDepth 20000 in
theorem t_Model_clause_j111 {l : Launch} {G : jG} (hG : jX G) {x1 : Int32} {x2 : Int32} {w : jW} {z : (Int32 × jW)} (h : f_Model_clause_j111 x1 x2 w = some z) : Ev l G (jrm d_Model_clause 0 0) y_Model_clause (some (.int z.1), jR0, z.2) 0 0 0 0 111 [some (.ref 93), some (.int x1), some (.int x2), none] [] jR0 w := by
  rw [f_Model_clause_j111] at h
  refine ev_seg (o := 10) (nL := 4) (q := 119) (xs := [(.aload_n 0, 1, 0, 0, .null), (.iconst 0, 1, 0, 0, .int 0), (.sipush 360, 3, 0, 0, .int 360), (.iload_n 2, 1, 2, 0, .null), (.iconst 1, 1, 0, 0, .int 1), (.iadd, 1, 0, 0, .null)]) (L' := [some (.ref 93), some (.int x1), some (.int x2), none]) (st' := [.int (x2 + 1), .int 360, .int 0, .ref 93]) (w' := w) (g := []) (K := []) (by decide +kernel) rfl rfl rfl rfl jk0 ?_
  obtain ⟨q10, hq10, h⟩ := jbe h
  refine ev_callV (ci := 10) (a := 93) (y2 := y_Model_take) (o := 10) (idx := 198) (d2 := d_Model_take) (n := 3) (mc2 := 0) (ms2 := 0) (As := [.int 0, .int 360, .int (x2 + 1)]) (st := []) (res2 := (some (.int q10.1), jR0, q10.2)) (by decide +kernel) rfl lk_10_198 mo_Model_take mv_Model_take ⟨Nat.le_of_ble_eq_true rfl, Nat.le_of_ble_eq_true rfl⟩ rfl rfl kz_93 (by decide) rfl (Nat.le_of_ble_eq_true rfl) ⟨Nat.le_refl _, Nat.le_refl _⟩ hG (e_Model_take hG hq10) ?_
  refine ev_seg (o := 10) (nL := 4) (q := 123) (xs := [(.istore_n 3, 1, 3, 0, .null)]) (L' := [some (.ref 93), some (.int x1), some (.int x2), some (.int q10.1)]) (st' := []) (w' := q10.2) (g := []) (K := []) (by decide +kernel) rfl rfl rfl rfl jk0 ?_
  refine ev_mask [true, true, true, true] ?_
  exact t_Model_clause_j123 hG h
def f_Model_clause_j100 (x1 : Int32) (x2 : Int32) (x3 : Int32) (w : jW) : Option (Int32 × jW) :=
  if x1 = 3 then
    f_Model_clause_j111 x1 x2 w
  else
    if x1 = 7 then
      f_Model_clause_j111 x1 x2 w
    else
      f_Model_clause_j123 x1 x2 x3 w
set_option maxRecDepth 20000 in
theorem t_Model_clause_j100 {l : Launch} {G : jG} (hG : jX G) {x1 : Int32} {x2 : Int32} {x3 : Int32} {w : jW} {z : (Int32 × jW)} (h : f_Model_clause_j100 x1 x2 x3 w = some z) : Ev l G (jrm d_Model_clause 0 0) y_Model_clause (some (.int z.1), jR0, z.2) 0 0 0 0 100 [some (.ref 93), some (.int x1), some (.int x2), some (.int x3)] [] jR0 w := by
  rw [f_Model_clause_j100] at h
  refine ev_seg (o := 10) (nL := 4) (q := 102) (xs := [(.iload_n 1, 1, 1, 0, .null), (.iconst 3, 1, 0, 0, .int 3)]) (L' := [some (.ref 93), some (.int x1), some (.int x2), some (.int x3)]) (st' := [.int 3, .int x1]) (w' := w) (g := []) (K := []) (by decide +kernel) rfl rfl rfl rfl jk0 ?_
  refine ev_icmp_eq (off := 9) (tgt := 111) (by decide +kernel) (by decide) (fun c20 => ?_) (fun c20 => ?_)
  · replace h := jpos c20 h
    refine ev_mask [true, true, true, false] ?_
    exact t_Model_clause_j111 hG h
  · replace h := jneg c20 h
    refine ev_seg (o := 10) (nL := 4) (q := 108) (xs := [(.iload_n 1, 1, 1, 0, .null), (.bipush 7, 2, 0, 0, .int 7)]) (L' := [some (.ref 93), some (.int x1), some (.int x2), some (.int x3)]) (st' := [.int 7, .int x1]) (w' := w) (g := []) (K := []) (by decide +kernel) rfl rfl rfl rfl jk0 ?_
    refine ev_icmp_ne (off := 15) (tgt := 123) (by decide +kernel) (by decide) (fun c19 => ?_) (fun c19 => ?_)
    · replace h := jneg c19 h
      refine ev_mask [true, true, true, true] ?_
      exact t_Model_clause_j123 hG h
    · replace h := jpos c19 h
      refine ev_mask [true, true, true, false] ?_
      exact t_Model_clause_j111 hG h
def f_Model_clause_j89 (x1 : Int32) (x2 : Int32) (x3 : Int32) (w : jW) : Option (Int32 × jW) :=
  if x1 = 2 then
    Option.bind (f_Model_limit x2 w) fun q21 =>
    f_Model_clause_j100 x1 x2 q21.1 q21.2
  else
    f_Model_clause_j100 x1 x2 x3 w
set_option maxRecDepth 20000 in
theorem t_Model_clause_j89 {l : Launch} {G : jG} (hG : jX G) {x1 : Int32} {x2 : Int32} {x3 : Int32} {w : jW} {z : (Int32 × jW)} (h : f_Model_clause_j89 x1 x2 x3 w = some z) : Ev l G (jrm d_Model_clause 0 0) y_Model_clause (some (.int z.1), jR0, z.2) 0 0 0 0 89 [some (.ref 93), some (.int x1), some (.int x2), some (.int x3)] [] jR0 w := by
  rw [f_Model_clause_j89] at h
  refine ev_seg (o := 10) (nL := 4) (q := 91) (xs := [(.iload_n 1, 1, 1, 0, .null), (.iconst 2, 1, 0, 0, .int 2)]) (L' := [some (.ref 93), some (.int x1), some (.int x2), some (.int x3)]) (st' := [.int 2, .int x1]) (w' := w) (g := []) (K := []) (by decide +kernel) rfl rfl rfl rfl jk0 ?_
  refine ev_icmp_ne (off := 9) (tgt := 100) (by decide +kernel) (by decide) (fun c22 => ?_) (fun c22 => ?_)
  · replace h := jneg c22 h
    refine ev_mask [true, true, true, true] ?_
    exact t_Model_clause_j100 hG h
  · replace h := jpos c22 h
    refine ev_seg (o := 10) (nL := 4) (q := 96) (xs := [(.aload_n 0, 1, 0, 0, .null), (.iload_n 2, 1, 2, 0, .null)]) (L' := [some (.ref 93), some (.int x1), some (.int x2), some (.int x3)]) (st' := [.int x2, .ref 93]) (w' := w) (g := []) (K := []) (by decide +kernel) rfl rfl rfl rfl jk0 ?_
    obtain ⟨q21, hq21, h⟩ := jbe h
    refine ev_callV (ci := 10) (a := 93) (y2 := y_Model_limit) (o := 10) (idx := 217) (d2 := d_Model_limit) (n := 1) (mc2 := 0) (ms2 := 0) (As := [.int x2]) (st := []) (res2 := (some (.int q21.1), jR0, q21.2)) (by decide +kernel) rfl lk_10_217 mo_Model_limit mv_Model_limit ⟨Nat.le_of_ble_eq_true rfl, Nat.le_of_ble_eq_true rfl⟩ rfl rfl kz_93 (by decide) rfl (Nat.le_of_ble_eq_true rfl) ⟨Nat.le_refl _, Nat.le_refl _⟩ hG (e_Model_limit hG hq21) ?_
    refine ev_seg (o := 10) (nL := 4) (q := 100) (xs := [(.istore_n 3, 1, 3, 0, .null)]) (L' := [some (.ref 93), some (.int x1), some (.int x2), some (.int q21.1)]) (st' := []) (w' := q21.2) (g := []) (K := []) (by decide +kernel) rfl rfl rfl rfl jk0 ?_
    refine ev_mask [true, true, true, true] ?_
    exact t_Model_clause_j100 hG h
def f_Model_clause_j60 (x1 : Int32) (x2 : Int32) (w : jW) : Option (Int32 × jW) :=
  if jal [jin (x2 + 4) 21000] = true then
  jlw ((jup w.1 94 (Int32.toNatClampNeg (x2 + 4)) (w.1 93 14)), w.2) fun w6 =>
  Option.bind (f_Model_either w6) fun q7 =>
  if jal [jin (x2 + 5) 21000] = true then
  jlw ((jup q7.2.1 94 (Int32.toNatClampNeg (x2 + 5)) (q7.2.1 93 14)), q7.2.2) fun w9 =>
  f_Model_clause_j89 x1 x2 q7.1 w9
  else none
  else none
set_option maxRecDepth 20000 in
theorem t_Model_clause_j60 {l : Launch} {G : jG} (hG : jX G) {x1 : Int32} {x2 : Int32} {w : jW} {z : (Int32 × jW)} (h : f_Model_clause_j60 x1 x2 w = some z) : Ev l G (jrm d_Model_clause 0 0) y_Model_clause (some (.int z.1), jR0, z.2) 0 0 0 0 60 [some (.ref 93), some (.int x1), some (.int x2), none] [] jR0 w := by
  rw [f_Model_clause_j60] at h
  obtain ⟨hg5, h⟩ := jgd h
  refine ev_seg (o := 10) (nL := 4) (q := 72) (xs := [(.aload_n 0, 1, 0, 0, .null), (.getfield 7, 3, 10, 0, .ref 20), (.iload_n 2, 1, 2, 0, .null), (.iconst 4, 1, 0, 0, .int 4), (.iadd, 1, 0, 0, .null), (.aload_n 0, 1, 0, 0, .null), (.getfield 153, 3, 10, 14, .int 0), (.iastore, 1, 0, 0, .null)]) (L' := [some (.ref 93), some (.int x1), some (.int x2), none]) (st' := []) (w' := ((jup w.1 94 (Int32.toNatClampNeg (x2 + 4)) (w.1 93 14)), w.2)) (g := [jin (x2 + 4) 21000]) (K := [(94, 20), (93, 10), (94, 20), (93, 10)]) (by decide +kernel) rfl rfl rfl hg5 (jk1 kz_94 (jk1 kz_93 (jk1 kz_94 (jk1 kz_93 jk0)))) ?_
  refine jlw_c (P := fun w6 => Ev l G (jrm d_Model_clause 0 0) y_Model_clause (some (.int z.1), jR0, z.2) 0 0 0 0 72 [some (.ref 93), some (.int x1), some (.int x2), none] [] jR0 w6) h fun w6 h => ?_
  refine ev_seg (o := 10) (nL := 4) (q := 73) (xs := [(.aload_n 0, 1, 0, 0, .null)]) (L' := [some (.ref 93), some (.int x1), some (.int x2), none]) (st' := [.ref 93]) (w' := w6) (g := []) (K := []) (by decide +kernel) rfl rfl rfl rfl jk0 ?_
  obtain ⟨q7, hq7, h⟩ := jbe h
  refine ev_callV (ci := 10) (a := 93) (y2 := y_Model_either) (o := 10) (idx := 214) (d2 := d_Model_either) (n := 0) (mc2 := 0) (ms2 := 0) (As := []) (st := []) (res2 := (some (.int q7.1), jR0, q7.2)) (by decide +kernel) rfl lk_10_214 mo_Model_either mv_Model_either ⟨Nat.le_of_ble_eq_true rfl, Nat.le_of_ble_eq_true rfl⟩ rfl rfl kz_93 (by decide) rfl (Nat.le_of_ble_eq_true rfl) ⟨Nat.le_refl _, Nat.le_refl _⟩ hG (e_Model_either hG hq7) ?_
  obtain ⟨hg8, h⟩ := jgd h
  refine ev_seg (o := 10) (nL := 4) (q := 89) (xs := [(.istore_n 3, 1, 3, 0, .null), (.aload_n 0, 1, 0, 0, .null), (.getfield 7, 3, 10, 0, .ref 20), (.iload_n 2, 1, 2, 0, .null), (.iconst 5, 1, 0, 0, .int 5), (.iadd, 1, 0, 0, .null), (.aload_n 0, 1, 0, 0, .null), (.getfield 153, 3, 10, 14, .int 0), (.iastore, 1, 0, 0, .null)]) (L' := [some (.ref 93), some (.int x1), some (.int x2), some (.int q7.1)]) (st' := []) (w' := ((jup q7.2.1 94 (Int32.toNatClampNeg (x2 + 5)) (q7.2.1 93 14)), q7.2.2)) (g := [jin (x2 + 5) 21000]) (K := [(94, 20), (93, 10), (94, 20), (93, 10)]) (by decide +kernel) rfl rfl rfl hg8 (jk1 kz_94 (jk1 kz_93 (jk1 kz_94 (jk1 kz_93 jk0)))) ?_
  refine jlw_c (P := fun w9 => Ev l G (jrm d_Model_clause 0 0) y_Model_clause (some (.int z.1), jR0, z.2) 0 0 0 0 89 [some (.ref 93), some (.int x1), some (.int x2), some (.int q7.1)] [] jR0 w9) h fun w9 h => ?_
  refine ev_mask [true, true, true, true] ?_
  exact t_Model_clause_j89 hG h
def f_Model_clause (w : jW) : Option (Int32 × jW) :=
  Option.bind (f_Model_sortOf w) fun q1 =>
  if q1.1 = 0 then
    some (1, q1.2)
  else
    if (q1.2.1 93 13) = 16 then
      some (4, q1.2)
    else
      if jal [jin (((q1.2.1 93 12) + 2) + (8 * (q1.2.1 93 13))) 21000] = true then
      jlw ((jup q1.2.1 94 (Int32.toNatClampNeg (((q1.2.1 93 12) + 2) + (8 * (q1.2.1 93 13)))) q1.1), q1.2.2) fun w3 =>
      Option.bind (f_Model_nextToken w3) fun q4 =>
      if q1.1 = 1 then
        f_Model_clause_j60 q1.1 (((q1.2.1 93 12) + 2) + (8 * (q1.2.1 93 13))) q4
      else
        if q1.1 = 5 then
          f_Model_clause_j60 q1.1 (((q1.2.1 93 12) + 2) + (8 * (q1.2.1 93 13))) q4
        else
          f_Model_clause_j89 q1.1 (((q1.2.1 93 12) + 2) + (8 * (q1.2.1 93 13))) 0 q4
      else none
set_option maxRecDepth 20000 in
theorem e_Model_clause {l : Launch} {G : jG} (hG : jX G) {w : jW} {z : (Int32 × jW)} (h : f_Model_clause w = some z) : Ct l G y_Model_clause d_Model_clause 0 0 [.ref 93] jR0 w (some (.int z.1), jR0, z.2) := by
  rw [f_Model_clause] at h
  refine Ct.of (L := [some (.ref 93), none, none, none]) (by decide) (Nat.le_of_ble_eq_true rfl) rfl ?_
  refine ev_seg (o := 10) (nL := 4) (q := 1) (xs := [(.aload_n 0, 1, 0, 0, .null)]) (L' := [some (.ref 93), none, none, none]) (st' := [.ref 93]) (w' := w) (g := []) (K := []) (by decide +kernel) rfl rfl rfl rfl jk0 ?_
  obtain ⟨q1, hq1, h⟩ := jbe h
  refine ev_callV (ci := 10) (a := 93) (y2 := y_Model_sortOf) (o := 10) (idx := 208) (d2 := d_Model_sortOf) (n := 0) (mc2 := 0) (ms2 := 0) (As := []) (st := []) (res2 := (some (.int q1.1), jR0, q1.2)) (by decide +kernel) rfl lk_10_208 mo_Model_sortOf mv_Model_sortOf ⟨Nat.le_of_ble_eq_true rfl, Nat.le_of_ble_eq_true rfl⟩ rfl rfl kz_93 (by decide) rfl (Nat.le_of_ble_eq_true rfl) ⟨Nat.le_refl _, Nat.le_refl _⟩ hG (e_Model_sortOf hG hq1) ?_
  refine ev_seg (o := 10) (nL := 4) (q := 6) (xs := [(.istore_n 1, 1, 1, 0, .null), (.iload_n 1, 1, 1, 0, .null)]) (L' := [some (.ref 93), some (.int q1.1), none, none]) (st' := [.int q1.1]) (w' := q1.2) (g := []) (K := []) (by decide +kernel) rfl rfl rfl rfl jk0 ?_
  refine ev_if_ne (off := 5) (tgt := 11) (by decide +kernel) (by decide) (fun c26 => ?_) (fun c26 => ?_)
  · replace h := jneg c26 h
    refine ev_seg (o := 10) (nL := 4) (q := 17) (xs := [(.aload_n 0, 1, 0, 0, .null), (.getfield 211, 3, 10, 13, .int 0), (.bipush 16, 2, 0, 0, .int 16)]) (L' := [some (.ref 93), some (.int q1.1), none, none]) (st' := [.int 16, .int (q1.2.1 93 13)]) (w' := q1.2) (g := []) (K := [(93, 10)]) (by decide +kernel) rfl rfl rfl rfl (jk1 kz_93 jk0) ?_
    refine ev_icmp_ne (off := 5) (tgt := 22) (by decide +kernel) (by decide) (fun c25 => ?_) (fun c25 => ?_)
    · replace h := jneg c25 h
      obtain ⟨hg2, h⟩ := jgd h
      refine ev_seg (o := 10) (nL := 4) (q := 44) (xs := [(.aload_n 0, 1, 0, 0, .null), (.getfield 150, 3, 10, 12, .int 0), (.iconst 2, 1, 0, 0, .int 2), (.iadd, 1, 0, 0, .null), (.bipush 8, 2, 0, 0, .int 8), (.aload_n 0, 1, 0, 0, .null), (.getfield 211, 3, 10, 13, .int 0), (.imul, 1, 0, 0, .null), (.iadd, 1, 0, 0, .null), (.istore_n 2, 1, 2, 0, .null), (.aload_n 0, 1, 0, 0, .null), (.getfield 7, 3, 10, 0, .ref 20), (.iload_n 2, 1, 2, 0, .null), (.iload_n 1, 1, 1, 0, .null), (.iastore, 1, 0, 0, .null)]) (L' := [some (.ref 93), some (.int q1.1), some (.int (((q1.2.1 93 12) + 2) + (8 * (q1.2.1 93 13)))), none]) (st' := []) (w' := ((jup q1.2.1 94 (Int32.toNatClampNeg (((q1.2.1 93 12) + 2) + (8 * (q1.2.1 93 13)))) q1.1), q1.2.2)) (g := [jin (((q1.2.1 93 12) + 2) + (8 * (q1.2.1 93 13))) 21000]) (K := [(94, 20), (94, 20), (93, 10), (93, 10), (93, 10)]) (by decide +kernel) rfl rfl rfl hg2 (jk1 kz_94 (jk1 kz_94 (jk1 kz_93 (jk1 kz_93 (jk1 kz_93 jk0))))) ?_
      refine jlw_c (P := fun w3 => Ev l G (jrm d_Model_clause 0 0) y_Model_clause (some (.int z.1), jR0, z.2) 0 0 0 0 44 [some (.ref 93), some (.int q1.1), some (.int (((q1.2.1 93 12) + 2) + (8 * (q1.2.1 93 13)))), none] [] jR0 w3) h fun w3 h => ?_
      refine ev_seg (o := 10) (nL := 4) (q := 45) (xs := [(.aload_n 0, 1, 0, 0, .null)]) (L' := [some (.ref 93), some (.int q1.1), some (.int (((q1.2.1 93 12) + 2) + (8 * (q1.2.1 93 13)))), none]) (st' := [.ref 93]) (w' := w3) (g := []) (K := []) (by decide +kernel) rfl rfl rfl rfl jk0 ?_
      obtain ⟨q4, hq4, h⟩ := jbe h
      refine ev_callV (ci := 10) (a := 93) (y2 := y_Model_nextToken) (o := 10) (idx := 147) (d2 := d_Model_nextToken) (n := 0) (mc2 := 0) (ms2 := 0) (As := []) (st := []) (res2 := (none, jR0, q4)) (by decide +kernel) rfl lk_10_147 mo_Model_nextToken mv_Model_nextToken ⟨Nat.le_of_ble_eq_true rfl, Nat.le_of_ble_eq_true rfl⟩ rfl rfl kz_93 (by decide) rfl (Nat.le_of_ble_eq_true rfl) ⟨Nat.le_refl _, Nat.le_refl _⟩ hG (e_Model_nextToken hG hq4) ?_
      refine ev_seg (o := 10) (nL := 4) (q := 52) (xs := [(.iconst 0, 1, 0, 0, .int 0), (.istore_n 3, 1, 3, 0, .null), (.iload_n 1, 1, 1, 0, .null), (.iconst 1, 1, 0, 0, .int 1)]) (L' := [some (.ref 93), some (.int q1.1), some (.int (((q1.2.1 93 12) + 2) + (8 * (q1.2.1 93 13)))), some (.int 0)]) (st' := [.int 1, .int q1.1]) (w' := q4) (g := []) (K := []) (by decide +kernel) rfl rfl rfl rfl jk0 ?_
      refine ev_icmp_eq (off := 8) (tgt := 60) (by decide +kernel) (by decide) (fun c24 => ?_) (fun c24 => ?_)
      · replace h := jpos c24 h
        refine ev_mask [true, true, true, false] ?_
        exact t_Model_clause_j60 hG h
      · replace h := jneg c24 h
        refine ev_seg (o := 10) (nL := 4) (q := 57) (xs := [(.iload_n 1, 1, 1, 0, .null), (.iconst 5, 1, 0, 0, .int 5)]) (L' := [some (.ref 93), some (.int q1.1), some (.int (((q1.2.1 93 12) + 2) + (8 * (q1.2.1 93 13)))), some (.int 0)]) (st' := [.int 5, .int q1.1]) (w' := q4) (g := []) (K := []) (by decide +kernel) rfl rfl rfl rfl jk0 ?_
        refine ev_icmp_ne (off := 32) (tgt := 89) (by decide +kernel) (by decide) (fun c23 => ?_) (fun c23 => ?_)
        · replace h := jneg c23 h
          refine ev_mask [true, true, true, true] ?_
          exact t_Model_clause_j89 hG h
        · replace h := jpos c23 h
          refine ev_mask [true, true, true, false] ?_
          exact t_Model_clause_j60 hG h
    · replace h := jpos c25 h
      refine ev_seg (o := 10) (nL := 4) (q := 21) (xs := [(.iconst 4, 1, 0, 0, .int 4)]) (L' := [some (.ref 93), some (.int q1.1), none, none]) (st' := [.int 4]) (w' := q1.2) (g := []) (K := []) (by decide +kernel) rfl rfl rfl rfl jk0 ?_
      cases h
      exact ev_iret (by decide +kernel) rfl rfl rfl rfl
  · replace h := jpos c26 h
    refine ev_seg (o := 10) (nL := 4) (q := 10) (xs := [(.iconst 1, 1, 0, 0, .int 1)]) (L' := [some (.ref 93), some (.int q1.1), none, none]) (st' := [.int 1]) (w' := q1.2) (g := []) (K := []) (by decide +kernel) rfl rfl rfl rfl jk0 ?_
    cases h
    exact ev_iret (by decide +kernel) rfl rfl rfl rfl
def f_Model_readText_h43 : Nat → jW → Option (Int32 × jW)
  | 0, _ => none
  | n + 1, w =>
  if (w.1 93 9) = 0 then
    some (0, w)
  else
    Option.bind (f_Model_clause w) fun q8 =>
    if q8.1 = 0 then
      (f_Model_readText_h43 n) q8.2
    else
      some (q8.1, q8.2)
set_option maxRecDepth 20000 in
theorem t_Model_readText_h43 {l : Launch} {G : jG} (hG : jX G) : ∀ (n : Nat) (w : jW) (z : (Int32 × jW)), f_Model_readText_h43 n w = some z → Ev l G (jrm d_Model_readText 0 0) y_Model_readText (some (.int z.1), jR0, z.2) 0 0 0 0 43 [some (.ref 93), none] [] jR0 w := by
  intro n
  induction n with
  | zero => intro w z h; simp only [f_Model_readText_h43] at h; cases h
  | succ n ih =>
    intro w z h
    rw [f_Model_readText_h43] at h
    refine ev_seg (o := 10) (nL := 2) (q := 47) (xs := [(.aload_n 0, 1, 0, 0, .null), (.getfield 114, 3, 10, 9, .int 0)]) (L' := [some (.ref 93), none]) (st' := [.int (w.1 93 9)]) (w' := w) (g := []) (K := [(93, 10)]) (by decide +kernel) rfl rfl rfl rfl (jk1 kz_93 jk0) ?_
    refine ev_if_eq (off := 17) (tgt := 64) (by decide +kernel) (by decide) (fun c10 => ?_) (fun c10 => ?_)
    · replace h := jpos c10 h
      refine ev_seg (o := 10) (nL := 2) (q := 65) (xs := [(.iconst 0, 1, 0, 0, .int 0)]) (L' := [some (.ref 93), none]) (st' := [.int 0]) (w' := w) (g := []) (K := []) (by decide +kernel) rfl rfl rfl rfl jk0 ?_
      cases h
      exact ev_iret (by decide +kernel) rfl rfl rfl rfl
    · replace h := jneg c10 h
      refine ev_seg (o := 10) (nL := 2) (q := 51) (xs := [(.aload_n 0, 1, 0, 0, .null)]) (L' := [some (.ref 93), none]) (st' := [.ref 93]) (w' := w) (g := []) (K := []) (by decide +kernel) rfl rfl rfl rfl jk0 ?_
      obtain ⟨q8, hq8, h⟩ := jbe h
      refine ev_callV (ci := 10) (a := 93) (y2 := y_Model_clause) (o := 10) (idx := 223) (d2 := d_Model_clause) (n := 0) (mc2 := 0) (ms2 := 0) (As := []) (st := []) (res2 := (some (.int q8.1), jR0, q8.2)) (by decide +kernel) rfl lk_10_223 mo_Model_clause mv_Model_clause ⟨Nat.le_of_ble_eq_true rfl, Nat.le_of_ble_eq_true rfl⟩ rfl rfl kz_93 (by decide) rfl (Nat.le_of_ble_eq_true rfl) ⟨Nat.le_refl _, Nat.le_refl _⟩ hG (e_Model_clause hG hq8) ?_
      refine ev_seg (o := 10) (nL := 2) (q := 56) (xs := [(.istore_n 1, 1, 1, 0, .null), (.iload_n 1, 1, 1, 0, .null)]) (L' := [some (.ref 93), some (.int q8.1)]) (st' := [.int q8.1]) (w' := q8.2) (g := []) (K := []) (by decide +kernel) rfl rfl rfl rfl jk0 ?_
      refine ev_if_eq (off := 5) (tgt := 61) (by decide +kernel) (by decide) (fun c9 => ?_) (fun c9 => ?_)
      · replace h := jpos c9 h
        refine ev_seg (o := 10) (nL := 2) (q := 43) (xs := [(.goto (-18), 3, 0, 0, .null)]) (L' := [some (.ref 93), some (.int q8.1)]) (st' := []) (w' := q8.2) (g := []) (K := []) (by decide +kernel) rfl rfl rfl rfl jk0 ?_
        refine ev_mask [true, false] ?_
        exact ih _ _ h
      · replace h := jneg c9 h
        refine ev_seg (o := 10) (nL := 2) (q := 60) (xs := [(.iload_n 1, 1, 1, 0, .null)]) (L' := [some (.ref 93), some (.int q8.1)]) (st' := [.int q8.1]) (w' := q8.2) (g := []) (K := []) (by decide +kernel) rfl rfl rfl rfl jk0 ?_
        cases h
        exact ev_iret (by decide +kernel) rfl rfl rfl rfl
def f_Model_readText (w : jW) : Option (Int32 × jW) :=
  if jal [jin 6 21000] = true then
  jlw ((jup w.1 93 12 (1680 + (800 * (w.1 94 (Int32.toNatClampNeg 6))))), w.2) fun w2 =>
  jlw ((jup w2.1 93 13 0), w2.2) fun w3 =>
  jlw ((jup w3.1 93 14 0), w3.2) fun w4 =>
  jlw ((jup w4.1 93 15 0), w4.2) fun w5 =>
  jlw ((jup w5.1 93 7 0), w5.2) fun w6 =>
  Option.bind (f_Model_nextToken w6) fun q7 =>
  f_Model_readText_h43 jfu q7
  else none
set_option maxRecDepth 20000 in
theorem e_Model_readText {l : Launch} {G : jG} (hG : jX G) {w : jW} {z : (Int32 × jW)} (h : f_Model_readText w = some z) : Ct l G y_Model_readText d_Model_readText 0 0 [.ref 93] jR0 w (some (.int z.1), jR0, z.2) := by
  rw [f_Model_readText] at h
  refine Ct.of (L := [some (.ref 93), none]) (by decide) (Nat.le_of_ble_eq_true rfl) rfl ?_
  obtain ⟨hg1, h⟩ := jgd h
  refine ev_seg (o := 10) (nL := 2) (q := 19) (xs := [(.aload_n 0, 1, 0, 0, .null), (.sipush 1680, 3, 0, 0, .int 1680), (.sipush 800, 3, 0, 0, .int 800), (.aload_n 0, 1, 0, 0, .null), (.getfield 7, 3, 10, 0, .ref 20), (.bipush 6, 2, 0, 0, .int 6), (.iaload, 1, 0, 0, .null), (.imul, 1, 0, 0, .null), (.iadd, 1, 0, 0, .null), (.putfield 150, 3, 10, 12, .int 0)]) (L' := [some (.ref 93), none]) (st' := []) (w' := ((jup w.1 93 12 (1680 + (800 * (w.1 94 (Int32.toNatClampNeg 6))))), w.2)) (g := [jin 6 21000]) (K := [(93, 10), (94, 20), (94, 20), (93, 10)]) (by decide +kernel) rfl rfl rfl hg1 (jk1 kz_93 (jk1 kz_94 (jk1 kz_94 (jk1 kz_93 jk0)))) ?_
  refine jlw_c (P := fun w2 => Ev l G (jrm d_Model_readText 0 0) y_Model_readText (some (.int z.1), jR0, z.2) 0 0 0 0 19 [some (.ref 93), none] [] jR0 w2) h fun w2 h => ?_
  refine ev_seg (o := 10) (nL := 2) (q := 24) (xs := [(.aload_n 0, 1, 0, 0, .null), (.iconst 0, 1, 0, 0, .int 0), (.putfield 211, 3, 10, 13, .int 0)]) (L' := [some (.ref 93), none]) (st' := []) (w' := ((jup w2.1 93 13 0), w2.2)) (g := []) (K := [(93, 10)]) (by decide +kernel) rfl rfl rfl rfl (jk1 kz_93 jk0) ?_
  refine jlw_c (P := fun w3 => Ev l G (jrm d_Model_readText 0 0) y_Model_readText (some (.int z.1), jR0, z.2) 0 0 0 0 24 [some (.ref 93), none] [] jR0 w3) h fun w3 h => ?_
  refine ev_seg (o := 10) (nL := 2) (q := 29) (xs := [(.aload_n 0, 1, 0, 0, .null), (.iconst 0, 1, 0, 0, .int 0), (.putfield 153, 3, 10, 14, .int 0)]) (L' := [some (.ref 93), none]) (st' := []) (w' := ((jup w3.1 93 14 0), w3.2)) (g := []) (K := [(93, 10)]) (by decide +kernel) rfl rfl rfl rfl (jk1 kz_93 jk0) ?_
  refine jlw_c (P := fun w4 => Ev l G (jrm d_Model_readText 0 0) y_Model_readText (some (.int z.1), jR0, z.2) 0 0 0 0 29 [some (.ref 93), none] [] jR0 w4) h fun w4 h => ?_
  refine ev_seg (o := 10) (nL := 2) (q := 34) (xs := [(.aload_n 0, 1, 0, 0, .null), (.iconst 0, 1, 0, 0, .int 0), (.putfield 159, 3, 10, 15, .int 0)]) (L' := [some (.ref 93), none]) (st' := []) (w' := ((jup w4.1 93 15 0), w4.2)) (g := []) (K := [(93, 10)]) (by decide +kernel) rfl rfl rfl rfl (jk1 kz_93 jk0) ?_
  refine jlw_c (P := fun w5 => Ev l G (jrm d_Model_readText 0 0) y_Model_readText (some (.int z.1), jR0, z.2) 0 0 0 0 34 [some (.ref 93), none] [] jR0 w5) h fun w5 h => ?_
  refine ev_seg (o := 10) (nL := 2) (q := 39) (xs := [(.aload_n 0, 1, 0, 0, .null), (.iconst 0, 1, 0, 0, .int 0), (.putfield 105, 3, 10, 7, .int 0)]) (L' := [some (.ref 93), none]) (st' := []) (w' := ((jup w5.1 93 7 0), w5.2)) (g := []) (K := [(93, 10)]) (by decide +kernel) rfl rfl rfl rfl (jk1 kz_93 jk0) ?_
  refine jlw_c (P := fun w6 => Ev l G (jrm d_Model_readText 0 0) y_Model_readText (some (.int z.1), jR0, z.2) 0 0 0 0 39 [some (.ref 93), none] [] jR0 w6) h fun w6 h => ?_
  refine ev_seg (o := 10) (nL := 2) (q := 40) (xs := [(.aload_n 0, 1, 0, 0, .null)]) (L' := [some (.ref 93), none]) (st' := [.ref 93]) (w' := w6) (g := []) (K := []) (by decide +kernel) rfl rfl rfl rfl jk0 ?_
  obtain ⟨q7, hq7, h⟩ := jbe h
  refine ev_callV (ci := 10) (a := 93) (y2 := y_Model_nextToken) (o := 10) (idx := 147) (d2 := d_Model_nextToken) (n := 0) (mc2 := 0) (ms2 := 0) (As := []) (st := []) (res2 := (none, jR0, q7)) (by decide +kernel) rfl lk_10_147 mo_Model_nextToken mv_Model_nextToken ⟨Nat.le_of_ble_eq_true rfl, Nat.le_of_ble_eq_true rfl⟩ rfl rfl kz_93 (by decide) rfl (Nat.le_of_ble_eq_true rfl) ⟨Nat.le_refl _, Nat.le_refl _⟩ hG (e_Model_nextToken hG hq7) ?_
  refine ev_mask [true, false] ?_
  exact t_Model_readText_h43 hG jfu _ _ h
def f_Model_text_j54 (x1 : Int32) (s0 : Int32) (w : jW) : Option (Int32 × jW) :=
  jlw ((jup w.1 93 6 s0), w.2) fun w6 =>
  jlw ((jup w6.1 93 4 0), w6.2) fun w7 =>
  if (w7.1 93 5) = 0 then
    if jal [jin (w7.1 93 12) 21000] = true then
    jlw ((jup w7.1 94 (Int32.toNatClampNeg (w7.1 93 12)) (w7.1 93 13)), w7.2) fun w9 =>
    if jal [jin ((w9.1 93 12) + 1) 21000] = true then
    jlw ((jup w9.1 94 (Int32.toNatClampNeg ((w9.1 93 12) + 1)) x1), w9.2) fun w11 =>
    if jal [jin 6 21000, jin 6 21000] = true then
    jlw ((jup w11.1 94 (Int32.toNatClampNeg 6) ((w11.1 94 (Int32.toNatClampNeg 6)) + 1)), w11.2) fun w13 =>
    if jal [jin 6 21000] = true then
    some (((w13.1 94 (Int32.toNatClampNeg 6)) - 1), w13)
    else none else none else none else none
  else
    some ((-1), w7)
set_option maxRecDepth 20000 in
theorem t_Model_text_j54 {l : Launch} {G : jG} (hG : jX G) {x1 : Int32} {s0 : Int32} {w : jW} {z : (Int32 × jW)} (h : f_Model_text_j54 x1 s0 w = some z) : Ev l G (jrm d_Model_text 0 0) y_Model_text (some (.int z.1), jR0, z.2) 0 0 0 0 54 [some (.ref 93), some (.int x1)] [.int s0, .ref 93] jR0 w := by
  rw [f_Model_text_j54] at h
  refine ev_seg (o := 10) (nL := 2) (q := 57) (xs := [(.putfield 26, 3, 10, 6, .int 0)]) (L' := [some (.ref 93), some (.int x1)]) (st' := []) (w' := ((jup w.1 93 6 s0), w.2)) (g := []) (K := [(93, 10)]) (by decide +kernel) rfl rfl rfl rfl (jk1 kz_93 jk0) ?_
  refine jlw_c (P := fun w6 => Ev l G (jrm d_Model_text 0 0) y_Model_text (some (.int z.1), jR0, z.2) 0 0 0 0 57 [some (.ref 93), some (.int x1)] [] jR0 w6) h fun w6 h => ?_
  refine ev_seg (o := 10) (nL := 2) (q := 62) (xs := [(.aload_n 0, 1, 0, 0, .null), (.iconst 0, 1, 0, 0, .int 0), (.putfield 98, 3, 10, 4, .int 0)]) (L' := [some (.ref 93), some (.int x1)]) (st' := []) (w' := ((jup w6.1 93 4 0), w6.2)) (g := []) (K := [(93, 10)]) (by decide +kernel) rfl rfl rfl rfl (jk1 kz_93 jk0) ?_
  refine jlw_c (P := fun w7 => Ev l G (jrm d_Model_text 0 0) y_Model_text (some (.int z.1), jR0, z.2) 0 0 0 0 62 [some (.ref 93), some (.int x1)] [] jR0 w7) h fun w7 h => ?_
  refine ev_seg (o := 10) (nL := 2) (q := 66) (xs := [(.aload_n 0, 1, 0, 0, .null), (.getfield 22, 3, 10, 5, .int 0)]) (L' := [some (.ref 93), some (.int x1)]) (st' := [.int (w7.1 93 5)]) (w' := w7) (g := []) (K := [(93, 10)]) (by decide +kernel) rfl rfl rfl rfl (jk1 kz_93 jk0) ?_
  refine ev_if_eq (off := 5) (tgt := 71) (by decide +kernel) (by decide) (fun c15 => ?_) (fun c15 => ?_)
  · replace h := jpos c15 h
    obtain ⟨hg8, h⟩ := jgd h
    refine ev_seg (o := 10) (nL := 2) (q := 84) (xs := [(.aload_n 0, 1, 0, 0, .null), (.getfield 7, 3, 10, 0, .ref 20), (.aload_n 0, 1, 0, 0, .null), (.getfield 150, 3, 10, 12, .int 0), (.aload_n 0, 1, 0, 0, .null), (.getfield 211, 3, 10, 13, .int 0), (.iastore, 1, 0, 0, .null)]) (L' := [some (.ref 93), some (.int x1)]) (st' := []) (w' := ((jup w7.1 94 (Int32.toNatClampNeg (w7.1 93 12)) (w7.1 93 13)), w7.2)) (g := [jin (w7.1 93 12) 21000]) (K := [(94, 20), (93, 10), (93, 10), (94, 20), (93, 10)]) (by decide +kernel) rfl rfl rfl hg8 (jk1 kz_94 (jk1 kz_93 (jk1 kz_93 (jk1 kz_94 (jk1 kz_93 jk0))))) ?_
    refine jlw_c (P := fun w9 => Ev l G (jrm d_Model_text 0 0) y_Model_text (some (.int z.1), jR0, z.2) 0 0 0 0 84 [some (.ref 93), some (.int x1)] [] jR0 w9) h fun w9 h => ?_
    obtain ⟨hg10, h⟩ := jgd h
    refine ev_seg (o := 10) (nL := 2) (q := 96) (xs := [(.aload_n 0, 1, 0, 0, .null), (.getfield 7, 3, 10, 0, .ref 20), (.aload_n 0, 1, 0, 0, .null), (.getfield 150, 3, 10, 12, .int 0), (.iconst 1, 1, 0, 0, .int 1), (.iadd, 1, 0, 0, .null), (.iload_n 1, 1, 1, 0, .null), (.iastore, 1, 0, 0, .null)]) (L' := [some (.ref 93), some (.int x1)]) (st' := []) (w' := ((jup w9.1 94 (Int32.toNatClampNeg ((w9.1 93 12) + 1)) x1), w9.2)) (g := [jin ((w9.1 93 12) + 1) 21000]) (K := [(94, 20), (93, 10), (94, 20), (93, 10)]) (by decide +kernel) rfl rfl rfl hg10 (jk1 kz_94 (jk1 kz_93 (jk1 kz_94 (jk1 kz_93 jk0)))) ?_
    refine jlw_c (P := fun w11 => Ev l G (jrm d_Model_text 0 0) y_Model_text (some (.int z.1), jR0, z.2) 0 0 0 0 96 [some (.ref 93), some (.int x1)] [] jR0 w11) h fun w11 h => ?_
    obtain ⟨hg12, h⟩ := jgd h
    refine ev_seg (o := 10) (nL := 2) (q := 107) (xs := [(.aload_n 0, 1, 0, 0, .null), (.getfield 7, 3, 10, 0, .ref 20), (.bipush 6, 2, 0, 0, .int 6), (.dup2, 1, 0, 0, .null), (.iaload, 1, 0, 0, .null), (.iconst 1, 1, 0, 0, .int 1), (.iadd, 1, 0, 0, .null), (.iastore, 1, 0, 0, .null)]) (L' := [some (.ref 93), some (.int x1)]) (st' := []) (w' := ((jup w11.1 94 (Int32.toNatClampNeg 6) ((w11.1 94 (Int32.toNatClampNeg 6)) + 1)), w11.2)) (g := [jin 6 21000, jin 6 21000]) (K := [(94, 20), (94, 20), (94, 20), (93, 10)]) (by decide +kernel) rfl rfl rfl hg12 (jk1 kz_94 (jk1 kz_94 (jk1 kz_94 (jk1 kz_93 jk0)))) ?_
    refine jlw_c (P := fun w13 => Ev l G (jrm d_Model_text 0 0) y_Model_text (some (.int z.1), jR0, z.2) 0 0 0 0 107 [some (.ref 93), some (.int x1)] [] jR0 w13) h fun w13 h => ?_
    obtain ⟨hg14, h⟩ := jgd h
    refine ev_seg (o := 10) (nL := 2) (q := 116) (xs := [(.aload_n 0, 1, 0, 0, .null), (.getfield 7, 3, 10, 0, .ref 20), (.bipush 6, 2, 0, 0, .int 6), (.iaload, 1, 0, 0, .null), (.iconst 1, 1, 0, 0, .int 1), (.isub, 1, 0, 0, .null)]) (L' := [some (.ref 93), some (.int x1)]) (st' := [.int ((w13.1 94 (Int32.toNatClampNeg 6)) - 1)]) (w' := w13) (g := [jin 6 21000]) (K := [(94, 20), (94, 20), (93, 10)]) (by decide +kernel) rfl rfl rfl hg14 (jk1 kz_94 (jk1 kz_94 (jk1 kz_93 jk0))) ?_
    cases h
    exact ev_iret (by decide +kernel) rfl rfl rfl rfl
  · replace h := jneg c15 h
    refine ev_seg (o := 10) (nL := 2) (q := 70) (xs := [(.iconst (-1), 1, 0, 0, .int (-1))]) (L' := [some (.ref 93), some (.int x1)]) (st' := [.int (-1)]) (w' := w7) (g := []) (K := []) (by decide +kernel) rfl rfl rfl rfl jk0 ?_
    cases h
    exact ev_iret (by decide +kernel) rfl rfl rfl rfl
def f_Model_text (x1 : Int32) (w : jW) : Option (Int32 × jW) :=
  if jal [jin 0 21000] = true then
  Option.bind (f_Model_isIn x1 (w.1 94 (Int32.toNatClampNeg 0)) 1999 w) fun q2 =>
  if q2.1 = 0 then
    some ((-1), q2.2)
  else
    if jal [jin 6 21000] = true then
    if (q2.2.1 94 (Int32.toNatClampNeg 6)) = 10 then
      some ((-1), q2.2)
    else
      Option.bind (f_Model_readText q2.2) fun q4 =>
      jlw ((jup q4.2.1 93 5 q4.1), q4.2.2) fun w5 =>
      if (w5.1 93 5) = 0 then
        f_Model_text_j54 x1 (-1) w5
      else
        f_Model_text_j54 x1 (w5.1 93 8) w5
    else none
  else none
set_option maxRecDepth 20000 in
theorem e_Model_text {l : Launch} {G : jG} (hG : jX G) {x1 : Int32} {w : jW} {z : (Int32 × jW)} (h : f_Model_text x1 w = some z) : Ct l G y_Model_text d_Model_text 0 0 [.ref 93, .int x1] jR0 w (some (.int z.1), jR0, z.2) := by
  rw [f_Model_text] at h
  refine Ct.of (L := [some (.ref 93), some (.int x1)]) (by decide) (Nat.le_of_ble_eq_true rfl) rfl ?_
  obtain ⟨hg1, h⟩ := jgd h
  refine ev_seg (o := 10) (nL := 2) (q := 10) (xs := [(.iload_n 1, 1, 1, 0, .null), (.aload_n 0, 1, 0, 0, .null), (.getfield 7, 3, 10, 0, .ref 20), (.iconst 0, 1, 0, 0, .int 0), (.iaload, 1, 0, 0, .null), (.sipush 1999, 3, 0, 0, .int 1999)]) (L' := [some (.ref 93), some (.int x1)]) (st' := [.int 1999, .int (w.1 94 (Int32.toNatClampNeg 0)), .int x1]) (w' := w) (g := [jin 0 21000]) (K := [(94, 20), (94, 20), (93, 10)]) (by decide +kernel) rfl rfl rfl hg1 (jk1 kz_94 (jk1 kz_94 (jk1 kz_93 jk0))) ?_
  obtain ⟨q2, hq2, h⟩ := jbe h
  refine ev_callS (y2 := y_Model_isIn) (o := 10) (idx := 46) (d2 := d_Model_isIn) (n := 3) (mc2 := 0) (ms2 := 0) (As := [.int x1, .int (w.1 94 (Int32.toNatClampNeg 0)), .int 1999]) (st := []) (res2 := (some (.int q2.1), jR0, q2.2)) (by decide +kernel) rfl lk_10_46 mo_Model_isIn ms_Model_isIn ⟨Nat.le_of_ble_eq_true rfl, Nat.le_of_ble_eq_true rfl⟩ rfl rfl (Nat.le_of_ble_eq_true rfl) ⟨Nat.le_refl _, Nat.le_refl _⟩ hG (e_Model_isIn hG hq2) ?_
  refine ev_if_eq (off := 15) (tgt := 28) (by decide +kernel) (by decide) (fun c18 => ?_) (fun c18 => ?_)
  · replace h := jpos c18 h
    refine ev_seg (o := 10) (nL := 2) (q := 29) (xs := [(.iconst (-1), 1, 0, 0, .int (-1))]) (L' := [some (.ref 93), some (.int x1)]) (st' := [.int (-1)]) (w' := q2.2) (g := []) (K := []) (by decide +kernel) rfl rfl rfl rfl jk0 ?_
    cases h
    exact ev_iret (by decide +kernel) rfl rfl rfl rfl
  · replace h := jneg c18 h
    obtain ⟨hg3, h⟩ := jgd h
    refine ev_seg (o := 10) (nL := 2) (q := 25) (xs := [(.aload_n 0, 1, 0, 0, .null), (.getfield 7, 3, 10, 0, .ref 20), (.bipush 6, 2, 0, 0, .int 6), (.iaload, 1, 0, 0, .null), (.bipush 10, 2, 0, 0, .int 10)]) (L' := [some (.ref 93), some (.int x1)]) (st' := [.int 10, .int (q2.2.1 94 (Int32.toNatClampNeg 6))]) (w' := q2.2) (g := [jin 6 21000]) (K := [(94, 20), (94, 20), (93, 10)]) (by decide +kernel) rfl rfl rfl hg3 (jk1 kz_94 (jk1 kz_94 (jk1 kz_93 jk0))) ?_
    refine ev_icmp_ne (off := 5) (tgt := 30) (by decide +kernel) (by decide) (fun c17 => ?_) (fun c17 => ?_)
    · replace h := jneg c17 h
      refine ev_seg (o := 10) (nL := 2) (q := 32) (xs := [(.aload_n 0, 1, 0, 0, .null), (.aload_n 0, 1, 0, 0, .null)]) (L' := [some (.ref 93), some (.int x1)]) (st' := [.ref 93, .ref 93]) (w' := q2.2) (g := []) (K := []) (by decide +kernel) rfl rfl rfl rfl jk0 ?_
      obtain ⟨q4, hq4, h⟩ := jbe h
      refine ev_callV (ci := 10) (a := 93) (y2 := y_Model_readText) (o := 10) (idx := 226) (d2 := d_Model_readText) (n := 0) (mc2 := 0) (ms2 := 0) (As := []) (st := [.ref 93]) (res2 := (some (.int q4.1), jR0, q4.2)) (by decide +kernel) rfl lk_10_226 mo_Model_readText mv_Model_readText ⟨Nat.le_of_ble_eq_true rfl, Nat.le_of_ble_eq_true rfl⟩ rfl rfl kz_93 (by decide) rfl (Nat.le_of_ble_eq_true rfl) ⟨Nat.le_refl _, Nat.le_refl _⟩ hG (e_Model_readText hG hq4) ?_
      refine ev_seg (o := 10) (nL := 2) (q := 38) (xs := [(.putfield 22, 3, 10, 5, .int 0)]) (L' := [some (.ref 93), some (.int x1)]) (st' := []) (w' := ((jup q4.2.1 93 5 q4.1), q4.2.2)) (g := []) (K := [(93, 10)]) (by decide +kernel) rfl rfl rfl rfl (jk1 kz_93 jk0) ?_
      refine jlw_c (P := fun w5 => Ev l G (jrm d_Model_text 0 0) y_Model_text (some (.int z.1), jR0, z.2) 0 0 0 0 38 [some (.ref 93), some (.int x1)] [] jR0 w5) h fun w5 h => ?_
      refine ev_seg (o := 10) (nL := 2) (q := 43) (xs := [(.aload_n 0, 1, 0, 0, .null), (.aload_n 0, 1, 0, 0, .null), (.getfield 22, 3, 10, 5, .int 0)]) (L' := [some (.ref 93), some (.int x1)]) (st' := [.int (w5.1 93 5), .ref 93]) (w' := w5) (g := []) (K := [(93, 10)]) (by decide +kernel) rfl rfl rfl rfl (jk1 kz_93 jk0) ?_
      refine ev_if_ne (off := 7) (tgt := 50) (by decide +kernel) (by decide) (fun c16 => ?_) (fun c16 => ?_)
      · replace h := jneg c16 h
        refine ev_seg (o := 10) (nL := 2) (q := 54) (xs := [(.aload_n 0, 1, 0, 0, .null), (.getfield 111, 3, 10, 8, .int 0)]) (L' := [some (.ref 93), some (.int x1)]) (st' := [.int (w5.1 93 8), .ref 93]) (w' := w5) (g := []) (K := [(93, 10)]) (by decide +kernel) rfl rfl rfl rfl (jk1 kz_93 jk0) ?_
        refine ev_mask [true, true] ?_
        exact t_Model_text_j54 hG h
      · replace h := jpos c16 h
        refine ev_seg (o := 10) (nL := 2) (q := 54) (xs := [(.iconst (-1), 1, 0, 0, .int (-1)), (.goto 7, 3, 0, 0, .null)]) (L' := [some (.ref 93), some (.int x1)]) (st' := [.int (-1), .ref 93]) (w' := w5) (g := []) (K := []) (by decide +kernel) rfl rfl rfl rfl jk0 ?_
        refine ev_mask [true, true] ?_
        exact t_Model_text_j54 hG h
    · replace h := jpos c17 h
      refine ev_seg (o := 10) (nL := 2) (q := 29) (xs := [(.iconst (-1), 1, 0, 0, .int (-1))]) (L' := [some (.ref 93), some (.int x1)]) (st' := [.int (-1)]) (w' := q2.2) (g := []) (K := []) (by decide +kernel) rfl rfl rfl rfl jk0 ?_
      cases h
      exact ev_iret (by decide +kernel) rfl rfl rfl rfl
def f_Model_fault (x1 : Int32) (w : jW) : Option (Int32 × jW) :=
  if x1 = 0 then
    some ((w.1 93 5), w)
  else
    if x1 = 1 then
      some ((w.1 93 6), w)
    else
      some ((-1), w)
set_option maxRecDepth 20000 in
theorem e_Model_fault {l : Launch} {G : jG} (hG : jX G) {x1 : Int32} {w : jW} {z : (Int32 × jW)} (h : f_Model_fault x1 w = some z) : Ct l G y_Model_fault d_Model_fault 0 0 [.ref 93, .int x1] jR0 w (some (.int z.1), jR0, z.2) := by
  rw [f_Model_fault] at h
  refine Ct.of (L := [some (.ref 93), some (.int x1)]) (by decide) (Nat.le_of_ble_eq_true rfl) rfl ?_
  refine ev_seg (o := 10) (nL := 2) (q := 1) (xs := [(.iload_n 1, 1, 1, 0, .null)]) (L' := [some (.ref 93), some (.int x1)]) (st' := [.int x1]) (w' := w) (g := []) (K := []) (by decide +kernel) rfl rfl rfl rfl jk0 ?_
  refine ev_if_ne (off := 10) (tgt := 11) (by decide +kernel) (by decide) (fun c2 => ?_) (fun c2 => ?_)
  · replace h := jneg c2 h
    refine ev_seg (o := 10) (nL := 2) (q := 13) (xs := [(.iload_n 1, 1, 1, 0, .null), (.iconst 1, 1, 0, 0, .int 1)]) (L' := [some (.ref 93), some (.int x1)]) (st' := [.int 1, .int x1]) (w' := w) (g := []) (K := []) (by decide +kernel) rfl rfl rfl rfl jk0 ?_
    refine ev_icmp_ne (off := 10) (tgt := 23) (by decide +kernel) (by decide) (fun c1 => ?_) (fun c1 => ?_)
    · replace h := jneg c1 h
      refine ev_seg (o := 10) (nL := 2) (q := 24) (xs := [(.iconst (-1), 1, 0, 0, .int (-1))]) (L' := [some (.ref 93), some (.int x1)]) (st' := [.int (-1)]) (w' := w) (g := []) (K := []) (by decide +kernel) rfl rfl rfl rfl jk0 ?_
      cases h
      exact ev_iret (by decide +kernel) rfl rfl rfl rfl
    · replace h := jpos c1 h
      refine ev_seg (o := 10) (nL := 2) (q := 24) (xs := [(.aload_n 0, 1, 0, 0, .null), (.getfield 26, 3, 10, 6, .int 0), (.goto 4, 3, 0, 0, .null)]) (L' := [some (.ref 93), some (.int x1)]) (st' := [.int (w.1 93 6)]) (w' := w) (g := []) (K := [(93, 10)]) (by decide +kernel) rfl rfl rfl rfl (jk1 kz_93 jk0) ?_
      cases h
      exact ev_iret (by decide +kernel) rfl rfl rfl rfl
  · replace h := jpos c2 h
    refine ev_seg (o := 10) (nL := 2) (q := 24) (xs := [(.aload_n 0, 1, 0, 0, .null), (.getfield 22, 3, 10, 5, .int 0), (.goto 16, 3, 0, 0, .null)]) (L' := [some (.ref 93), some (.int x1)]) (st' := [.int (w.1 93 5)]) (w' := w) (g := []) (K := [(93, 10)]) (by decide +kernel) rfl rfl rfl rfl (jk1 kz_93 jk0) ?_
    cases h
    exact ev_iret (by decide +kernel) rfl rfl rfl rfl
def f_Model_says (x1 : Int32) (x2 : Int32) (w : jW) : Option (Int32 × jW) :=
  Option.bind (f_Model_isDay x1 w) fun q1 =>
  if q1.1 = 0 then
    some ((-1), q1.2)
  else
    Option.bind (f_Model_isIn x2 0 5 q1.2) fun q2 =>
    if q2.1 = 0 then
      some ((-1), q2.2)
    else
      Option.bind (f_Model_saysOf x1 x2 q2.2) fun q3 =>
      some (q3.1, q3.2)
set_option maxRecDepth 20000 in
theorem e_Model_says {l : Launch} {G : jG} (hG : jX G) {x1 : Int32} {x2 : Int32} {w : jW} {z : (Int32 × jW)} (h : f_Model_says x1 x2 w = some z) : Ct l G y_Model_says d_Model_says 0 0 [.ref 93, .int x1, .int x2] jR0 w (some (.int z.1), jR0, z.2) := by
  rw [f_Model_says] at h
  refine Ct.of (L := [some (.ref 93), some (.int x1), some (.int x2)]) (by decide) (Nat.le_of_ble_eq_true rfl) rfl ?_
  refine ev_seg (o := 10) (nL := 3) (q := 1) (xs := [(.iload_n 1, 1, 1, 0, .null)]) (L' := [some (.ref 93), some (.int x1), some (.int x2)]) (st' := [.int x1]) (w' := w) (g := []) (K := []) (by decide +kernel) rfl rfl rfl rfl jk0 ?_
  obtain ⟨q1, hq1, h⟩ := jbe h
  refine ev_callS (y2 := y_Model_isDay) (o := 10) (idx := 75) (d2 := d_Model_isDay) (n := 1) (mc2 := 0) (ms2 := 0) (As := [.int x1]) (st := []) (res2 := (some (.int q1.1), jR0, q1.2)) (by decide +kernel) rfl lk_10_75 mo_Model_isDay ms_Model_isDay ⟨Nat.le_of_ble_eq_true rfl, Nat.le_of_ble_eq_true rfl⟩ rfl rfl (Nat.le_of_ble_eq_true rfl) ⟨Nat.le_refl _, Nat.le_refl _⟩ hG (e_Model_isDay hG hq1) ?_
  refine ev_if_eq (off := 21) (tgt := 25) (by decide +kernel) (by decide) (fun c5 => ?_) (fun c5 => ?_)
  · replace h := jpos c5 h
    refine ev_seg (o := 10) (nL := 3) (q := 26) (xs := [(.iconst (-1), 1, 0, 0, .int (-1))]) (L' := [some (.ref 93), some (.int x1), some (.int x2)]) (st' := [.int (-1)]) (w' := q1.2) (g := []) (K := []) (by decide +kernel) rfl rfl rfl rfl jk0 ?_
    cases h
    exact ev_iret (by decide +kernel) rfl rfl rfl rfl
  · replace h := jneg c5 h
    refine ev_seg (o := 10) (nL := 3) (q := 10) (xs := [(.iload_n 2, 1, 2, 0, .null), (.iconst 0, 1, 0, 0, .int 0), (.iconst 5, 1, 0, 0, .int 5)]) (L' := [some (.ref 93), some (.int x1), some (.int x2)]) (st' := [.int 5, .int 0, .int x2]) (w' := q1.2) (g := []) (K := []) (by decide +kernel) rfl rfl rfl rfl jk0 ?_
    obtain ⟨q2, hq2, h⟩ := jbe h
    refine ev_callS (y2 := y_Model_isIn) (o := 10) (idx := 46) (d2 := d_Model_isIn) (n := 3) (mc2 := 0) (ms2 := 0) (As := [.int x2, .int 0, .int 5]) (st := []) (res2 := (some (.int q2.1), jR0, q2.2)) (by decide +kernel) rfl lk_10_46 mo_Model_isIn ms_Model_isIn ⟨Nat.le_of_ble_eq_true rfl, Nat.le_of_ble_eq_true rfl⟩ rfl rfl (Nat.le_of_ble_eq_true rfl) ⟨Nat.le_refl _, Nat.le_refl _⟩ hG (e_Model_isIn hG hq2) ?_
    refine ev_if_eq (off := 12) (tgt := 25) (by decide +kernel) (by decide) (fun c4 => ?_) (fun c4 => ?_)
    · replace h := jpos c4 h
      refine ev_seg (o := 10) (nL := 3) (q := 26) (xs := [(.iconst (-1), 1, 0, 0, .int (-1))]) (L' := [some (.ref 93), some (.int x1), some (.int x2)]) (st' := [.int (-1)]) (w' := q2.2) (g := []) (K := []) (by decide +kernel) rfl rfl rfl rfl jk0 ?_
      cases h
      exact ev_iret (by decide +kernel) rfl rfl rfl rfl
    · replace h := jneg c4 h
      refine ev_seg (o := 10) (nL := 3) (q := 19) (xs := [(.aload_n 0, 1, 0, 0, .null), (.iload_n 1, 1, 1, 0, .null), (.iload_n 2, 1, 2, 0, .null)]) (L' := [some (.ref 93), some (.int x1), some (.int x2)]) (st' := [.int x2, .int x1, .ref 93]) (w' := q2.2) (g := []) (K := []) (by decide +kernel) rfl rfl rfl rfl jk0 ?_
      obtain ⟨q3, hq3, h⟩ := jbe h
      refine ev_callV (ci := 10) (a := 93) (y2 := y_Model_saysOf) (o := 10) (idx := 81) (d2 := d_Model_saysOf) (n := 2) (mc2 := 0) (ms2 := 0) (As := [.int x1, .int x2]) (st := []) (res2 := (some (.int q3.1), jR0, q3.2)) (by decide +kernel) rfl lk_10_81 mo_Model_saysOf mv_Model_saysOf ⟨Nat.le_of_ble_eq_true rfl, Nat.le_of_ble_eq_true rfl⟩ rfl rfl kz_93 (by decide) rfl (Nat.le_of_ble_eq_true rfl) ⟨Nat.le_refl _, Nat.le_refl _⟩ hG (e_Model_saysOf hG hq3) ?_
      refine ev_seg (o := 10) (nL := 3) (q := 26) (xs := [(.goto 4, 3, 0, 0, .null)]) (L' := [some (.ref 93), some (.int x1), some (.int x2)]) (st' := [.int q3.1]) (w' := q3.2) (g := []) (K := []) (by decide +kernel) rfl rfl rfl rfl jk0 ?_
      cases h
      exact ev_iret (by decide +kernel) rfl rfl rfl rfl
def f_Model_isAsked (x0 : Int32) (x1 : Int32) (x2 : Int32) (w : jW) : Option (Int32 × jW) :=
  if x0 = 10 then
    if x1 < x2 then
      some (1, w)
    else
      some (0, w)
  else
    if x0 = 11 then
      if x1 ≤ x2 then
        some (1, w)
      else
        some (0, w)
    else
      if x0 = 12 then
        if x1 ≤ x2 then
          some (0, w)
        else
          some (1, w)
      else
        if x0 = 13 then
          if x1 < x2 then
            some (0, w)
          else
            some (1, w)
        else
          if x0 = 14 then
            if x1 = x2 then
              some (1, w)
            else
              some (0, w)
          else
            if x1 = x2 then
              some (0, w)
            else
              some (1, w)
set_option maxRecDepth 20000 in
theorem e_Model_isAsked {l : Launch} {G : jG} (hG : jX G) {x0 : Int32} {x1 : Int32} {x2 : Int32} {w : jW} {z : (Int32 × jW)} (h : f_Model_isAsked x0 x1 x2 w = some z) : Ct l G y_Model_isAsked d_Model_isAsked 0 0 [.int x0, .int x1, .int x2] jR0 w (some (.int z.1), jR0, z.2) := by
  rw [f_Model_isAsked] at h
  refine Ct.of (L := [some (.int x0), some (.int x1), some (.int x2)]) (by decide) (Nat.le_of_ble_eq_true rfl) rfl ?_
  refine ev_seg (o := 10) (nL := 3) (q := 3) (xs := [(.iload_n 0, 1, 0, 0, .null), (.bipush 10, 2, 0, 0, .int 10)]) (L' := [some (.int x0), some (.int x1), some (.int x2)]) (st' := [.int 10, .int x0]) (w' := w) (g := []) (K := []) (by decide +kernel) rfl rfl rfl rfl jk0 ?_
  refine ev_icmp_ne (off := 16) (tgt := 19) (by decide +kernel) (by decide) (fun c11 => ?_) (fun c11 => ?_)
  · replace h := jneg c11 h
    refine ev_seg (o := 10) (nL := 3) (q := 22) (xs := [(.iload_n 0, 1, 0, 0, .null), (.bipush 11, 2, 0, 0, .int 11)]) (L' := [some (.int x0), some (.int x1), some (.int x2)]) (st' := [.int 11, .int x0]) (w' := w) (g := []) (K := []) (by decide +kernel) rfl rfl rfl rfl jk0 ?_
    refine ev_icmp_ne (off := 16) (tgt := 38) (by decide +kernel) (by decide) (fun c9 => ?_) (fun c9 => ?_)
    · replace h := jneg c9 h
      refine ev_seg (o := 10) (nL := 3) (q := 41) (xs := [(.iload_n 0, 1, 0, 0, .null), (.bipush 12, 2, 0, 0, .int 12)]) (L' := [some (.int x0), some (.int x1), some (.int x2)]) (st' := [.int 12, .int x0]) (w' := w) (g := []) (K := []) (by decide +kernel) rfl rfl rfl rfl jk0 ?_
      refine ev_icmp_ne (off := 16) (tgt := 57) (by decide +kernel) (by decide) (fun c7 => ?_) (fun c7 => ?_)
      · replace h := jneg c7 h
        refine ev_seg (o := 10) (nL := 3) (q := 60) (xs := [(.iload_n 0, 1, 0, 0, .null), (.bipush 13, 2, 0, 0, .int 13)]) (L' := [some (.int x0), some (.int x1), some (.int x2)]) (st' := [.int 13, .int x0]) (w' := w) (g := []) (K := []) (by decide +kernel) rfl rfl rfl rfl jk0 ?_
        refine ev_icmp_ne (off := 16) (tgt := 76) (by decide +kernel) (by decide) (fun c5 => ?_) (fun c5 => ?_)
        · replace h := jneg c5 h
          refine ev_seg (o := 10) (nL := 3) (q := 79) (xs := [(.iload_n 0, 1, 0, 0, .null), (.bipush 14, 2, 0, 0, .int 14)]) (L' := [some (.int x0), some (.int x1), some (.int x2)]) (st' := [.int 14, .int x0]) (w' := w) (g := []) (K := []) (by decide +kernel) rfl rfl rfl rfl jk0 ?_
          refine ev_icmp_ne (off := 16) (tgt := 95) (by decide +kernel) (by decide) (fun c3 => ?_) (fun c3 => ?_)
          · replace h := jneg c3 h
            refine ev_seg (o := 10) (nL := 3) (q := 97) (xs := [(.iload_n 1, 1, 1, 0, .null), (.iload_n 2, 1, 2, 0, .null)]) (L' := [some (.int x0), some (.int x1), some (.int x2)]) (st' := [.int x2, .int x1]) (w' := w) (g := []) (K := []) (by decide +kernel) rfl rfl rfl rfl jk0 ?_
            refine ev_icmp_eq (off := 7) (tgt := 104) (by decide +kernel) (by decide) (fun c1 => ?_) (fun c1 => ?_)
            · replace h := jpos c1 h
              refine ev_seg (o := 10) (nL := 3) (q := 105) (xs := [(.iconst 0, 1, 0, 0, .int 0)]) (L' := [some (.int x0), some (.int x1), some (.int x2)]) (st' := [.int 0]) (w' := w) (g := []) (K := []) (by decide +kernel) rfl rfl rfl rfl jk0 ?_
              cases h
              exact ev_zret (by decide +kernel) rfl rfl rfl rfl rfl
            · replace h := jneg c1 h
              refine ev_seg (o := 10) (nL := 3) (q := 105) (xs := [(.iconst 1, 1, 0, 0, .int 1), (.goto 4, 3, 0, 0, .null)]) (L' := [some (.int x0), some (.int x1), some (.int x2)]) (st' := [.int 1]) (w' := w) (g := []) (K := []) (by decide +kernel) rfl rfl rfl rfl jk0 ?_
              cases h
              exact ev_zret (by decide +kernel) rfl rfl rfl rfl rfl
          · replace h := jpos c3 h
            refine ev_seg (o := 10) (nL := 3) (q := 84) (xs := [(.iload_n 1, 1, 1, 0, .null), (.iload_n 2, 1, 2, 0, .null)]) (L' := [some (.int x0), some (.int x1), some (.int x2)]) (st' := [.int x2, .int x1]) (w' := w) (g := []) (K := []) (by decide +kernel) rfl rfl rfl rfl jk0 ?_
            refine ev_icmp_ne (off := 7) (tgt := 91) (by decide +kernel) (by decide) (fun c2 => ?_) (fun c2 => ?_)
            · replace h := jneg c2 h
              refine ev_seg (o := 10) (nL := 3) (q := 105) (xs := [(.iconst 0, 1, 0, 0, .int 0), (.goto 13, 3, 0, 0, .null)]) (L' := [some (.int x0), some (.int x1), some (.int x2)]) (st' := [.int 0]) (w' := w) (g := []) (K := []) (by decide +kernel) rfl rfl rfl rfl jk0 ?_
              cases h
              exact ev_zret (by decide +kernel) rfl rfl rfl rfl rfl
            · replace h := jpos c2 h
              refine ev_seg (o := 10) (nL := 3) (q := 105) (xs := [(.iconst 1, 1, 0, 0, .int 1), (.goto 17, 3, 0, 0, .null)]) (L' := [some (.int x0), some (.int x1), some (.int x2)]) (st' := [.int 1]) (w' := w) (g := []) (K := []) (by decide +kernel) rfl rfl rfl rfl jk0 ?_
              cases h
              exact ev_zret (by decide +kernel) rfl rfl rfl rfl rfl
        · replace h := jpos c5 h
          refine ev_seg (o := 10) (nL := 3) (q := 65) (xs := [(.iload_n 1, 1, 1, 0, .null), (.iload_n 2, 1, 2, 0, .null)]) (L' := [some (.int x0), some (.int x1), some (.int x2)]) (st' := [.int x2, .int x1]) (w' := w) (g := []) (K := []) (by decide +kernel) rfl rfl rfl rfl jk0 ?_
          refine ev_icmp_lt (off := 7) (tgt := 72) (by decide +kernel) (by decide) (fun c4 => ?_) (fun c4 => ?_)
          · replace h := jpos c4 h
            refine ev_seg (o := 10) (nL := 3) (q := 105) (xs := [(.iconst 0, 1, 0, 0, .int 0), (.goto 32, 3, 0, 0, .null)]) (L' := [some (.int x0), some (.int x1), some (.int x2)]) (st' := [.int 0]) (w' := w) (g := []) (K := []) (by decide +kernel) rfl rfl rfl rfl jk0 ?_
            cases h
            exact ev_zret (by decide +kernel) rfl rfl rfl rfl rfl
          · replace h := jneg c4 h
            refine ev_seg (o := 10) (nL := 3) (q := 105) (xs := [(.iconst 1, 1, 0, 0, .int 1), (.goto 36, 3, 0, 0, .null)]) (L' := [some (.int x0), some (.int x1), some (.int x2)]) (st' := [.int 1]) (w' := w) (g := []) (K := []) (by decide +kernel) rfl rfl rfl rfl jk0 ?_
            cases h
            exact ev_zret (by decide +kernel) rfl rfl rfl rfl rfl
      · replace h := jpos c7 h
        refine ev_seg (o := 10) (nL := 3) (q := 46) (xs := [(.iload_n 1, 1, 1, 0, .null), (.iload_n 2, 1, 2, 0, .null)]) (L' := [some (.int x0), some (.int x1), some (.int x2)]) (st' := [.int x2, .int x1]) (w' := w) (g := []) (K := []) (by decide +kernel) rfl rfl rfl rfl jk0 ?_
        refine ev_icmp_le (off := 7) (tgt := 53) (by decide +kernel) (by decide) (fun c6 => ?_) (fun c6 => ?_)
        · replace h := jpos c6 h
          refine ev_seg (o := 10) (nL := 3) (q := 105) (xs := [(.iconst 0, 1, 0, 0, .int 0), (.goto 51, 3, 0, 0, .null)]) (L' := [some (.int x0), some (.int x1), some (.int x2)]) (st' := [.int 0]) (w' := w) (g := []) (K := []) (by decide +kernel) rfl rfl rfl rfl jk0 ?_
          cases h
          exact ev_zret (by decide +kernel) rfl rfl rfl rfl rfl
        · replace h := jneg c6 h
          refine ev_seg (o := 10) (nL := 3) (q := 105) (xs := [(.iconst 1, 1, 0, 0, .int 1), (.goto 55, 3, 0, 0, .null)]) (L' := [some (.int x0), some (.int x1), some (.int x2)]) (st' := [.int 1]) (w' := w) (g := []) (K := []) (by decide +kernel) rfl rfl rfl rfl jk0 ?_
          cases h
          exact ev_zret (by decide +kernel) rfl rfl rfl rfl rfl
    · replace h := jpos c9 h
      refine ev_seg (o := 10) (nL := 3) (q := 27) (xs := [(.iload_n 1, 1, 1, 0, .null), (.iload_n 2, 1, 2, 0, .null)]) (L' := [some (.int x0), some (.int x1), some (.int x2)]) (st' := [.int x2, .int x1]) (w' := w) (g := []) (K := []) (by decide +kernel) rfl rfl rfl rfl jk0 ?_
      refine ev_icmp_gt (off := 7) (tgt := 34) (by decide +kernel) (by decide) (fun c8 => ?_) (fun c8 => ?_)
      · replace h := jneg c8 h
        refine ev_seg (o := 10) (nL := 3) (q := 105) (xs := [(.iconst 0, 1, 0, 0, .int 0), (.goto 70, 3, 0, 0, .null)]) (L' := [some (.int x0), some (.int x1), some (.int x2)]) (st' := [.int 0]) (w' := w) (g := []) (K := []) (by decide +kernel) rfl rfl rfl rfl jk0 ?_
        cases h
        exact ev_zret (by decide +kernel) rfl rfl rfl rfl rfl
      · replace h := jpos c8 h
        refine ev_seg (o := 10) (nL := 3) (q := 105) (xs := [(.iconst 1, 1, 0, 0, .int 1), (.goto 74, 3, 0, 0, .null)]) (L' := [some (.int x0), some (.int x1), some (.int x2)]) (st' := [.int 1]) (w' := w) (g := []) (K := []) (by decide +kernel) rfl rfl rfl rfl jk0 ?_
        cases h
        exact ev_zret (by decide +kernel) rfl rfl rfl rfl rfl
  · replace h := jpos c11 h
    refine ev_seg (o := 10) (nL := 3) (q := 8) (xs := [(.iload_n 1, 1, 1, 0, .null), (.iload_n 2, 1, 2, 0, .null)]) (L' := [some (.int x0), some (.int x1), some (.int x2)]) (st' := [.int x2, .int x1]) (w' := w) (g := []) (K := []) (by decide +kernel) rfl rfl rfl rfl jk0 ?_
    refine ev_icmp_ge (off := 7) (tgt := 15) (by decide +kernel) (by decide) (fun c10 => ?_) (fun c10 => ?_)
    · replace h := jneg c10 h
      refine ev_seg (o := 10) (nL := 3) (q := 105) (xs := [(.iconst 0, 1, 0, 0, .int 0), (.goto 89, 3, 0, 0, .null)]) (L' := [some (.int x0), some (.int x1), some (.int x2)]) (st' := [.int 0]) (w' := w) (g := []) (K := []) (by decide +kernel) rfl rfl rfl rfl jk0 ?_
      cases h
      exact ev_zret (by decide +kernel) rfl rfl rfl rfl rfl
    · replace h := jpos c10 h
      refine ev_seg (o := 10) (nL := 3) (q := 105) (xs := [(.iconst 1, 1, 0, 0, .int 1), (.goto 93, 3, 0, 0, .null)]) (L' := [some (.int x0), some (.int x1), some (.int x2)]) (st' := [.int 1]) (w' := w) (g := []) (K := []) (by decide +kernel) rfl rfl rfl rfl jk0 ?_
      cases h
      exact ev_zret (by decide +kernel) rfl rfl rfl rfl rfl
def f_Model_named (x1 : Int32) (x2 : Int32) (x3 : Int32) (w : jW) : Option (Int32 × jW) :=
  if x1 = 0 then
    Option.bind (f_Model_thingAt x2 0 w) fun q7 =>
    some (q7.1, q7.2)
  else
    if x1 = 1 then
      Option.bind (f_Model_thingAt x2 1 w) fun q5 =>
      some (q5.1, q5.2)
    else
      if x1 = 2 then
        Option.bind (f_Model_thingAt x2 2 w) fun q3 =>
        some (q3.1, q3.2)
      else
        if x1 = 3 then
          some (x3, w)
        else
          Option.bind (f_Model_thingAt x2 3 w) fun q1 =>
          some (q1.1, q1.2)
set_option maxRecDepth 20000 in
theorem e_Model_named {l : Launch} {G : jG} (hG : jX G) {x1 : Int32} {x2 : Int32} {x3 : Int32} {w : jW} {z : (Int32 × jW)} (h : f_Model_named x1 x2 x3 w = some z) : Ct l G y_Model_named d_Model_named 0 0 [.ref 93, .int x1, .int x2, .int x3] jR0 w (some (.int z.1), jR0, z.2) := by
  rw [f_Model_named] at h
  refine Ct.of (L := [some (.ref 93), some (.int x1), some (.int x2), some (.int x3)]) (by decide) (Nat.le_of_ble_eq_true rfl) rfl ?_
  refine ev_seg (o := 10) (nL := 4) (q := 1) (xs := [(.iload_n 1, 1, 1, 0, .null)]) (L' := [some (.ref 93), some (.int x1), some (.int x2), some (.int x3)]) (st' := [.int x1]) (w' := w) (g := []) (K := []) (by decide +kernel) rfl rfl rfl rfl jk0 ?_
  refine ev_if_ne (off := 12) (tgt := 13) (by decide +kernel) (by decide) (fun c8 => ?_) (fun c8 => ?_)
  · replace h := jneg c8 h
    refine ev_seg (o := 10) (nL := 4) (q := 15) (xs := [(.iload_n 1, 1, 1, 0, .null), (.iconst 1, 1, 0, 0, .int 1)]) (L' := [some (.ref 93), some (.int x1), some (.int x2), some (.int x3)]) (st' := [.int 1, .int x1]) (w' := w) (g := []) (K := []) (by decide +kernel) rfl rfl rfl rfl jk0 ?_
    refine ev_icmp_ne (off := 12) (tgt := 27) (by decide +kernel) (by decide) (fun c6 => ?_) (fun c6 => ?_)
    · replace h := jneg c6 h
      refine ev_seg (o := 10) (nL := 4) (q := 29) (xs := [(.iload_n 1, 1, 1, 0, .null), (.iconst 2, 1, 0, 0, .int 2)]) (L' := [some (.ref 93), some (.int x1), some (.int x2), some (.int x3)]) (st' := [.int 2, .int x1]) (w' := w) (g := []) (K := []) (by decide +kernel) rfl rfl rfl rfl jk0 ?_
      refine ev_icmp_ne (off := 12) (tgt := 41) (by decide +kernel) (by decide) (fun c4 => ?_) (fun c4 => ?_)
      · replace h := jneg c4 h
        refine ev_seg (o := 10) (nL := 4) (q := 43) (xs := [(.iload_n 1, 1, 1, 0, .null), (.iconst 3, 1, 0, 0, .int 3)]) (L' := [some (.ref 93), some (.int x1), some (.int x2), some (.int x3)]) (st' := [.int 3, .int x1]) (w' := w) (g := []) (K := []) (by decide +kernel) rfl rfl rfl rfl jk0 ?_
        refine ev_icmp_ne (off := 7) (tgt := 50) (by decide +kernel) (by decide) (fun c2 => ?_) (fun c2 => ?_)
        · replace h := jneg c2 h
          refine ev_seg (o := 10) (nL := 4) (q := 53) (xs := [(.aload_n 0, 1, 0, 0, .null), (.iload_n 2, 1, 2, 0, .null), (.iconst 3, 1, 0, 0, .int 3)]) (L' := [some (.ref 93), some (.int x1), some (.int x2), some (.int x3)]) (st' := [.int 3, .int x2, .ref 93]) (w' := w) (g := []) (K := []) (by decide +kernel) rfl rfl rfl rfl jk0 ?_
          obtain ⟨q1, hq1, h⟩ := jbe h
          refine ev_callV (ci := 10) (a := 93) (y2 := y_Model_thingAt) (o := 10) (idx := 66) (d2 := d_Model_thingAt) (n := 2) (mc2 := 0) (ms2 := 0) (As := [.int x2, .int 3]) (st := []) (res2 := (some (.int q1.1), jR0, q1.2)) (by decide +kernel) rfl lk_10_66 mo_Model_thingAt mv_Model_thingAt ⟨Nat.le_of_ble_eq_true rfl, Nat.le_of_ble_eq_true rfl⟩ rfl rfl kz_93 (by decide) rfl (Nat.le_of_ble_eq_true rfl) ⟨Nat.le_refl _, Nat.le_refl _⟩ hG (e_Model_thingAt hG hq1) ?_
          cases h
          exact ev_iret (by decide +kernel) rfl rfl rfl rfl
        · replace h := jpos c2 h
          refine ev_seg (o := 10) (nL := 4) (q := 56) (xs := [(.iload_n 3, 1, 3, 0, .null), (.goto 9, 3, 0, 0, .null)]) (L' := [some (.ref 93), some (.int x1), some (.int x2), some (.int x3)]) (st' := [.int x3]) (w' := w) (g := []) (K := []) (by decide +kernel) rfl rfl rfl rfl jk0 ?_
          cases h
          exact ev_iret (by decide +kernel) rfl rfl rfl rfl
      · replace h := jpos c4 h
        refine ev_seg (o := 10) (nL := 4) (q := 35) (xs := [(.aload_n 0, 1, 0, 0, .null), (.iload_n 2, 1, 2, 0, .null), (.iconst 2, 1, 0, 0, .int 2)]) (L' := [some (.ref 93), some (.int x1), some (.int x2), some (.int x3)]) (st' := [.int 2, .int x2, .ref 93]) (w' := w) (g := []) (K := []) (by decide +kernel) rfl rfl rfl rfl jk0 ?_
        obtain ⟨q3, hq3, h⟩ := jbe h
        refine ev_callV (ci := 10) (a := 93) (y2 := y_Model_thingAt) (o := 10) (idx := 66) (d2 := d_Model_thingAt) (n := 2) (mc2 := 0) (ms2 := 0) (As := [.int x2, .int 2]) (st := []) (res2 := (some (.int q3.1), jR0, q3.2)) (by decide +kernel) rfl lk_10_66 mo_Model_thingAt mv_Model_thingAt ⟨Nat.le_of_ble_eq_true rfl, Nat.le_of_ble_eq_true rfl⟩ rfl rfl kz_93 (by decide) rfl (Nat.le_of_ble_eq_true rfl) ⟨Nat.le_refl _, Nat.le_refl _⟩ hG (e_Model_thingAt hG hq3) ?_
        refine ev_seg (o := 10) (nL := 4) (q := 56) (xs := [(.goto 18, 3, 0, 0, .null)]) (L' := [some (.ref 93), some (.int x1), some (.int x2), some (.int x3)]) (st' := [.int q3.1]) (w' := q3.2) (g := []) (K := []) (by decide +kernel) rfl rfl rfl rfl jk0 ?_
        cases h
        exact ev_iret (by decide +kernel) rfl rfl rfl rfl
    · replace h := jpos c6 h
      refine ev_seg (o := 10) (nL := 4) (q := 21) (xs := [(.aload_n 0, 1, 0, 0, .null), (.iload_n 2, 1, 2, 0, .null), (.iconst 1, 1, 0, 0, .int 1)]) (L' := [some (.ref 93), some (.int x1), some (.int x2), some (.int x3)]) (st' := [.int 1, .int x2, .ref 93]) (w' := w) (g := []) (K := []) (by decide +kernel) rfl rfl rfl rfl jk0 ?_
      obtain ⟨q5, hq5, h⟩ := jbe h
      refine ev_callV (ci := 10) (a := 93) (y2 := y_Model_thingAt) (o := 10) (idx := 66) (d2 := d_Model_thingAt) (n := 2) (mc2 := 0) (ms2 := 0) (As := [.int x2, .int 1]) (st := []) (res2 := (some (.int q5.1), jR0, q5.2)) (by decide +kernel) rfl lk_10_66 mo_Model_thingAt mv_Model_thingAt ⟨Nat.le_of_ble_eq_true rfl, Nat.le_of_ble_eq_true rfl⟩ rfl rfl kz_93 (by decide) rfl (Nat.le_of_ble_eq_true rfl) ⟨Nat.le_refl _, Nat.le_refl _⟩ hG (e_Model_thingAt hG hq5) ?_
      refine ev_seg (o := 10) (nL := 4) (q := 56) (xs := [(.goto 32, 3, 0, 0, .null)]) (L' := [some (.ref 93), some (.int x1), some (.int x2), some (.int x3)]) (st' := [.int q5.1]) (w' := q5.2) (g := []) (K := []) (by decide +kernel) rfl rfl rfl rfl jk0 ?_
      cases h
      exact ev_iret (by decide +kernel) rfl rfl rfl rfl
  · replace h := jpos c8 h
    refine ev_seg (o := 10) (nL := 4) (q := 7) (xs := [(.aload_n 0, 1, 0, 0, .null), (.iload_n 2, 1, 2, 0, .null), (.iconst 0, 1, 0, 0, .int 0)]) (L' := [some (.ref 93), some (.int x1), some (.int x2), some (.int x3)]) (st' := [.int 0, .int x2, .ref 93]) (w' := w) (g := []) (K := []) (by decide +kernel) rfl rfl rfl rfl jk0 ?_
    obtain ⟨q7, hq7, h⟩ := jbe h
    refine ev_callV (ci := 10) (a := 93) (y2 := y_Model_thingAt) (o := 10) (idx := 66) (d2 := d_Model_thingAt) (n := 2) (mc2 := 0) (ms2 := 0) (As := [.int x2, .int 0]) (st := []) (res2 := (some (.int q7.1), jR0, q7.2)) (by decide +kernel) rfl lk_10_66 mo_Model_thingAt mv_Model_thingAt ⟨Nat.le_of_ble_eq_true rfl, Nat.le_of_ble_eq_true rfl⟩ rfl rfl kz_93 (by decide) rfl (Nat.le_of_ble_eq_true rfl) ⟨Nat.le_refl _, Nat.le_refl _⟩ hG (e_Model_thingAt hG hq7) ?_
    refine ev_seg (o := 10) (nL := 4) (q := 56) (xs := [(.goto 46, 3, 0, 0, .null)]) (L' := [some (.ref 93), some (.int x1), some (.int x2), some (.int x3)]) (st' := [.int q7.1]) (w' := q7.2) (g := []) (K := []) (by decide +kernel) rfl rfl rfl rfl jk0 ?_
    cases h
    exact ev_iret (by decide +kernel) rfl rfl rfl rfl
def f_Model_isSo_j92 (k16 : Int32 → Int32 → Int32 → Int32 → Int32 → Int32 → Int32 → jW → Option (Int32 × jW)) (x1 : Int32) (x2 : Int32) (x3 : Int32) (x4 : Int32) (x5 : Int32) (x6 : Int32) (x7 : Int32) (x8 : Int32) (x9 : Int32) (w : jW) : Option (Int32 × jW) :=
  if x8 = 0 then
    if jal [jin x5 320] = true then
    jlw ((jup w.1 99 (Int32.toNatClampNeg x5) x9), w.2) fun w9 =>
    k16 x1 x2 x3 x4 (x5 + 1) x6 (x7 + 1) w9
    else none
  else
    Option.bind (f_Model_named x9 x3 x4 w) fun q5 =>
    if jal [jin x5 320] = true then
    jlw ((jup q5.2.1 99 (Int32.toNatClampNeg x5) q5.1), q5.2.2) fun w7 =>
    k16 x1 x2 x3 x4 (x5 + 1) x6 (x7 + 1) w7
    else none
set_option maxRecDepth 20000 in
theorem t_Model_isSo_j92 {l : Launch} {G : jG} (hG : jX G) {k16 : Int32 → Int32 → Int32 → Int32 → Int32 → Int32 → Int32 → jW → Option (Int32 × jW)} (hk16 : ∀ (x1 : Int32) (x2 : Int32) (x3 : Int32) (x4 : Int32) (x5 : Int32) (x6 : Int32) (x7 : Int32) (w : jW) (z : (Int32 × jW)), k16 x1 x2 x3 x4 x5 x6 x7 w = some z → Ev l G (jrm d_Model_isSo 0 0) y_Model_isSo (some (.int z.1), jR0, z.2) 0 0 0 0 16 [some (.ref 93), some (.int x1), some (.int x2), some (.int x3), some (.int x4), some (.int x5), some (.int x6), some (.int x7), none, none] [] jR0 w) {x1 : Int32} {x2 : Int32} {x3 : Int32} {x4 : Int32} {x5 : Int32} {x6 : Int32} {x7 : Int32} {x8 : Int32} {x9 : Int32} {w : jW} {z : (Int32 × jW)} (h : f_Model_isSo_j92 k16 x1 x2 x3 x4 x5 x6 x7 x8 x9 w = some z) : Ev l G (jrm d_Model_isSo 0 0) y_Model_isSo (some (.int z.1), jR0, z.2) 0 0 0 0 92 [some (.ref 93), some (.int x1), some (.int x2), some (.int x3), some (.int x4), some (.int x5), some (.int x6), some (.int x7), some (.int x8), some (.int x9)] [] jR0 w := by
  rw [f_Model_isSo_j92] at h
  refine ev_seg (o := 10) (nL := 10) (q := 100) (xs := [(.aload_n 0, 1, 0, 0, .null), (.getfield 32, 3, 10, 18, .ref 20), (.iload 5, 2, 5, 0, .null), (.iload 8, 2, 8, 0, .null)]) (L' := [some (.ref 93), some (.int x1), some (.int x2), some (.int x3), some (.int x4), some (.int x5), some (.int x6), some (.int x7), some (.int x8), some (.int x9)]) (st' := [.int x8, .int x5, .ref 99]) (w' := w) (g := []) (K := [(99, 20), (93, 10)]) (by decide +kernel) rfl rfl rfl rfl (jk1 kz_99 (jk1 kz_93 jk0)) ?_
  refine ev_if_ne (off := 8) (tgt := 108) (by decide +kernel) (by decide) (fun c10 => ?_) (fun c10 => ?_)
  · replace h := jneg c10 h
    refine ev_seg (o := 10) (nL := 10) (q := 114) (xs := [(.aload_n 0, 1, 0, 0, .null), (.iload 9, 2, 9, 0, .null), (.iload_n 3, 1, 3, 0, .null), (.iload 4, 2, 4, 0, .null)]) (L' := [some (.ref 93), some (.int x1), some (.int x2), some (.int x3), some (.int x4), some (.int x5), some (.int x6), some (.int x7), some (.int x8), some (.int x9)]) (st' := [.int x4, .int x3, .int x9, .ref 93, .int x5, .ref 99]) (w' := w) (g := []) (K := []) (by decide +kernel) rfl rfl rfl rfl jk0 ?_
    obtain ⟨q5, hq5, h⟩ := jbe h
    refine ev_callV (ci := 10) (a := 93) (y2 := y_Model_named) (o := 10) (idx := 248) (d2 := d_Model_named) (n := 3) (mc2 := 0) (ms2 := 0) (As := [.int x9, .int x3, .int x4]) (st := [.int x5, .ref 99]) (res2 := (some (.int q5.1), jR0, q5.2)) (by decide +kernel) rfl lk_10_248 mo_Model_named mv_Model_named ⟨Nat.le_of_ble_eq_true rfl, Nat.le_of_ble_eq_true rfl⟩ rfl rfl kz_93 (by decide) rfl (Nat.le_of_ble_eq_true rfl) ⟨Nat.le_refl _, Nat.le_refl _⟩ hG (e_Model_named hG hq5) ?_
    obtain ⟨hg6, h⟩ := jgd h
    refine ev_seg (o := 10) (nL := 10) (q := 118) (xs := [(.iastore, 1, 0, 0, .null)]) (L' := [some (.ref 93), some (.int x1), some (.int x2), some (.int x3), some (.int x4), some (.int x5), some (.int x6), some (.int x7), some (.int x8), some (.int x9)]) (st' := []) (w' := ((jup q5.2.1 99 (Int32.toNatClampNeg x5) q5.1), q5.2.2)) (g := [jin x5 320]) (K := [(99, 20)]) (by decide +kernel) rfl rfl rfl hg6 (jk1 kz_99 jk0) ?_
    refine jlw_c (P := fun w7 => Ev l G (jrm d_Model_isSo 0 0) y_Model_isSo (some (.int z.1), jR0, z.2) 0 0 0 0 118 [some (.ref 93), some (.int x1), some (.int x2), some (.int x3), some (.int x4), some (.int x5), some (.int x6), some (.int x7), some (.int x8), some (.int x9)] [] jR0 w7) h fun w7 h => ?_
    refine ev_seg (o := 10) (nL := 10) (q := 16) (xs := [(.iinc 5 1, 3, 5, 0, .int 1), (.goto 159, 3, 0, 0, .null), (.iinc 7 1, 3, 7, 0, .int 1), (.goto (-267), 3, 0, 0, .null)]) (L' := [some (.ref 93), some (.int x1), some (.int x2), some (.int x3), some (.int x4), some (.int (x5 + 1)), some (.int x6), some (.int (x7 + 1)), some (.int x8), some (.int x9)]) (st' := []) (w' := w7) (g := []) (K := []) (by decide +kernel) rfl rfl rfl rfl jk0 ?_
    refine ev_mask [true, true, true, true, true, true, true, true, false, false] ?_
    exact hk16 _ _ _ _ _ _ _ _ _ h
  · replace h := jpos c10 h
    obtain ⟨hg8, h⟩ := jgd h
    refine ev_seg (o := 10) (nL := 10) (q := 118) (xs := [(.iload 9, 2, 9, 0, .null), (.goto 12, 3, 0, 0, .null), (.iastore, 1, 0, 0, .null)]) (L' := [some (.ref 93), some (.int x1), some (.int x2), some (.int x3), some (.int x4), some (.int x5), some (.int x6), some (.int x7), some (.int x8), some (.int x9)]) (st' := []) (w' := ((jup w.1 99 (Int32.toNatClampNeg x5) x9), w.2)) (g := [jin x5 320]) (K := [(99, 20)]) (by decide +kernel) rfl rfl rfl hg8 (jk1 kz_99 jk0) ?_
    refine jlw_c (P := fun w9 => Ev l G (jrm d_Model_isSo 0 0) y_Model_isSo (some (.int z.1), jR0, z.2) 0 0 0 0 118 [some (.ref 93), some (.int x1), some (.int x2), some (.int x3), some (.int x4), some (.int x5), some (.int x6), some (.int x7), some (.int x8), some (.int x9)] [] jR0 w9) h fun w9 h => ?_
    refine ev_seg (o := 10) (nL := 10) (q := 16) (xs := [(.iinc 5 1, 3, 5, 0, .int 1), (.goto 159, 3, 0, 0, .null), (.iinc 7 1, 3, 7, 0, .int 1), (.goto (-267), 3, 0, 0, .null)]) (L' := [some (.ref 93), some (.int x1), some (.int x2), some (.int x3), some (.int x4), some (.int (x5 + 1)), some (.int x6), some (.int (x7 + 1)), some (.int x8), some (.int x9)]) (st' := []) (w' := w9) (g := []) (K := []) (by decide +kernel) rfl rfl rfl rfl jk0 ?_
    refine ev_mask [true, true, true, true, true, true, true, true, false, false] ?_
    exact hk16 _ _ _ _ _ _ _ _ _ h
def f_Model_isSo_h16 : Nat → Int32 → Int32 → Int32 → Int32 → Int32 → Int32 → Int32 → jW → Option (Int32 × jW)
  | 0, _, _, _, _, _, _, _, _ => none
  | n + 1, x1, x2, x3, x4, x5, x6, x7, w =>
  if jal [jin (x2 + 5) 21000] = true then
  if x7 < (w.1 94 (Int32.toNatClampNeg (x2 + 5))) then
    if jal [jin ((((1680 + (800 * x1)) + 140) + (2 * x7)) + 1) 21000, jin (((1680 + (800 * x1)) + 140) + (2 * x7)) 21000] = true then
    if (w.1 94 (Int32.toNatClampNeg (((1680 + (800 * x1)) + 140) + (2 * x7)))) = 0 then
      f_Model_isSo_j92 (f_Model_isSo_h16 n) x1 x2 x3 x4 x5 x6 x7 (w.1 94 (Int32.toNatClampNeg (((1680 + (800 * x1)) + 140) + (2 * x7)))) (w.1 94 (Int32.toNatClampNeg ((((1680 + (800 * x1)) + 140) + (2 * x7)) + 1))) w
    else
      if (w.1 94 (Int32.toNatClampNeg (((1680 + (800 * x1)) + 140) + (2 * x7)))) = 1 then
        f_Model_isSo_j92 (f_Model_isSo_h16 n) x1 x2 x3 x4 x5 x6 x7 (w.1 94 (Int32.toNatClampNeg (((1680 + (800 * x1)) + 140) + (2 * x7)))) (w.1 94 (Int32.toNatClampNeg ((((1680 + (800 * x1)) + 140) + (2 * x7)) + 1))) w
      else
        if (w.1 94 (Int32.toNatClampNeg (((1680 + (800 * x1)) + 140) + (2 * x7)))) < 21 then
          if jal [jin ((x5 + (-2)) + 1) 320, jin (x5 + (-2)) 320] = true then
          Option.bind (f_Model_isAsked (w.1 94 (Int32.toNatClampNeg (((1680 + (800 * x1)) + 140) + (2 * x7)))) (w.1 99 (Int32.toNatClampNeg (x5 + (-2)))) (w.1 99 (Int32.toNatClampNeg ((x5 + (-2)) + 1))) w) fun q40 =>
          if jal [jbo q40.1, jin x6 320] = true then
          jlw ((jup q40.2.1 100 (Int32.toNatClampNeg x6) q40.1), q40.2.2) fun w42 =>
          (f_Model_isSo_h16 n) x1 x2 x3 x4 (x5 + (-2)) (x6 + 1) (x7 + 1) w42
          else none
          else none
        else
          if (w.1 94 (Int32.toNatClampNeg (((1680 + (800 * x1)) + 140) + (2 * x7)))) = 30 then
            if jal [jin (x6 - 1) 320] = true then
            if (w.1 100 (Int32.toNatClampNeg (x6 - 1))) = 0 then
              if jal [jbo 1, jin (x6 - 1) 320] = true then
              jlw ((jup w.1 100 (Int32.toNatClampNeg (x6 - 1)) 1), w.2) fun w36 =>
              (f_Model_isSo_h16 n) x1 x2 x3 x4 x5 x6 (x7 + 1) w36
              else none
            else
              if jal [jbo 0, jin (x6 - 1) 320] = true then
              jlw ((jup w.1 100 (Int32.toNatClampNeg (x6 - 1)) 0), w.2) fun w34 =>
              (f_Model_isSo_h16 n) x1 x2 x3 x4 x5 x6 (x7 + 1) w34
              else none
            else none
          else
            if (w.1 94 (Int32.toNatClampNeg (((1680 + (800 * x1)) + 140) + (2 * x7)))) = 22 then
              if jal [jin ((x6 + (-1)) - 1) 320] = true then
              if (w.1 100 (Int32.toNatClampNeg ((x6 + (-1)) - 1))) = 0 then
                if jal [jbo 0, jin ((x6 + (-1)) - 1) 320] = true then
                jlw ((jup w.1 100 (Int32.toNatClampNeg ((x6 + (-1)) - 1)) 0), w.2) fun w23 =>
                (f_Model_isSo_h16 n) x1 x2 x3 x4 x5 (x6 + (-1)) (x7 + 1) w23
                else none
              else
                if jal [jin (x6 + (-1)) 320] = true then
                if (w.1 100 (Int32.toNatClampNeg (x6 + (-1)))) = 0 then
                  if jal [jbo 0, jin ((x6 + (-1)) - 1) 320] = true then
                  jlw ((jup w.1 100 (Int32.toNatClampNeg ((x6 + (-1)) - 1)) 0), w.2) fun w26 =>
                  (f_Model_isSo_h16 n) x1 x2 x3 x4 x5 (x6 + (-1)) (x7 + 1) w26
                  else none
                else
                  if jal [jbo 1, jin ((x6 + (-1)) - 1) 320] = true then
                  jlw ((jup w.1 100 (Int32.toNatClampNeg ((x6 + (-1)) - 1)) 1), w.2) fun w28 =>
                  (f_Model_isSo_h16 n) x1 x2 x3 x4 x5 (x6 + (-1)) (x7 + 1) w28
                  else none
                else none
              else none
            else
              if jal [jin ((x6 + (-1)) - 1) 320] = true then
              if (w.1 100 (Int32.toNatClampNeg ((x6 + (-1)) - 1))) = 0 then
                if jal [jin (x6 + (-1)) 320] = true then
                if (w.1 100 (Int32.toNatClampNeg (x6 + (-1)))) = 0 then
                  if jal [jbo 0, jin ((x6 + (-1)) - 1) 320] = true then
                  jlw ((jup w.1 100 (Int32.toNatClampNeg ((x6 + (-1)) - 1)) 0), w.2) fun w16 =>
                  (f_Model_isSo_h16 n) x1 x2 x3 x4 x5 (x6 + (-1)) (x7 + 1) w16
                  else none
                else
                  if jal [jbo 1, jin ((x6 + (-1)) - 1) 320] = true then
                  jlw ((jup w.1 100 (Int32.toNatClampNeg ((x6 + (-1)) - 1)) 1), w.2) fun w18 =>
                  (f_Model_isSo_h16 n) x1 x2 x3 x4 x5 (x6 + (-1)) (x7 + 1) w18
                  else none
                else none
              else
                if jal [jbo 1, jin ((x6 + (-1)) - 1) 320] = true then
                jlw ((jup w.1 100 (Int32.toNatClampNeg ((x6 + (-1)) - 1)) 1), w.2) fun w13 =>
                (f_Model_isSo_h16 n) x1 x2 x3 x4 x5 (x6 + (-1)) (x7 + 1) w13
                else none
              else none
    else none
  else
    if jal [jin 0 320] = true then
    if jbo (w.1 100 (Int32.toNatClampNeg 0)) = true then some ((w.1 100 (Int32.toNatClampNeg 0)), w) else none
    else none
  else none
set_option maxRecDepth 20000 in
theorem t_Model_isSo_h16 {l : Launch} {G : jG} (hG : jX G) : ∀ (n : Nat) (x1 : Int32) (x2 : Int32) (x3 : Int32) (x4 : Int32) (x5 : Int32) (x6 : Int32) (x7 : Int32) (w : jW) (z : (Int32 × jW)), f_Model_isSo_h16 n x1 x2 x3 x4 x5 x6 x7 w = some z → Ev l G (jrm d_Model_isSo 0 0) y_Model_isSo (some (.int z.1), jR0, z.2) 0 0 0 0 16 [some (.ref 93), some (.int x1), some (.int x2), some (.int x3), some (.int x4), some (.int x5), some (.int x6), some (.int x7), none, none] [] jR0 w := by
  intro n
  induction n with
  | zero => intro x1 x2 x3 x4 x5 x6 x7 w z h; simp only [f_Model_isSo_h16] at h; cases h
  | succ n ih =>
    intro x1 x2 x3 x4 x5 x6 x7 w z h
    rw [f_Model_isSo_h16] at h
    obtain ⟨hg2, h⟩ := jgd h
    refine ev_seg (o := 10) (nL := 10) (q := 26) (xs := [(.iload 7, 2, 7, 0, .null), (.aload_n 0, 1, 0, 0, .null), (.getfield 7, 3, 10, 0, .ref 20), (.iload_n 2, 1, 2, 0, .null), (.iconst 5, 1, 0, 0, .int 5), (.iadd, 1, 0, 0, .null), (.iaload, 1, 0, 0, .null)]) (L' := [some (.ref 93), some (.int x1), some (.int x2), some (.int x3), some (.int x4), some (.int x5), some (.int x6), some (.int x7), none, none]) (st' := [.int (w.1 94 (Int32.toNatClampNeg (x2 + 5))), .int x7]) (w' := w) (g := [jin (x2 + 5) 21000]) (K := [(94, 20), (94, 20), (93, 10)]) (by decide +kernel) rfl rfl rfl hg2 (jk1 kz_94 (jk1 kz_94 (jk1 kz_93 jk0))) ?_
    refine ev_icmp_ge (off := 260) (tgt := 286) (by decide +kernel) (by decide) (fun c46 => ?_) (fun c46 => ?_)
    · replace h := jneg c46 h
      obtain ⟨hg3, h⟩ := jgd h
      refine ev_seg (o := 10) (nL := 10) (q := 292) (xs := [(.aload_n 0, 1, 0, 0, .null), (.getfield 35, 3, 10, 19, .ref 21), (.iconst 0, 1, 0, 0, .int 0), (.baload, 1, 0, 0, .null)]) (L' := [some (.ref 93), some (.int x1), some (.int x2), some (.int x3), some (.int x4), some (.int x5), some (.int x6), some (.int x7), none, none]) (st' := [.int (w.1 100 (Int32.toNatClampNeg 0))]) (w' := w) (g := [jin 0 320]) (K := [(100, 21), (100, 21), (93, 10)]) (by decide +kernel) rfl rfl rfl hg3 (jk1 kz_100 (jk1 kz_100 (jk1 kz_93 jk0))) ?_
      obtain ⟨hz, h⟩ := jgd h
      cases h
      exact ev_zret (by decide +kernel) rfl hz rfl rfl rfl
    · replace h := jpos c46 h
      obtain ⟨hg4, h⟩ := jgd h
      refine ev_seg (o := 10) (nL := 10) (q := 83) (xs := [(.aload_n 0, 1, 0, 0, .null), (.getfield 7, 3, 10, 0, .ref 20), (.sipush 1680, 3, 0, 0, .int 1680), (.sipush 800, 3, 0, 0, .int 800), (.iload_n 1, 1, 1, 0, .null), (.imul, 1, 0, 0, .null), (.iadd, 1, 0, 0, .null), (.sipush 140, 3, 0, 0, .int 140), (.iadd, 1, 0, 0, .null), (.iconst 2, 1, 0, 0, .int 2), (.iload 7, 2, 7, 0, .null), (.imul, 1, 0, 0, .null), (.iadd, 1, 0, 0, .null), (.iaload, 1, 0, 0, .null), (.istore 8, 2, 8, 0, .null), (.aload_n 0, 1, 0, 0, .null), (.getfield 7, 3, 10, 0, .ref 20), (.sipush 1680, 3, 0, 0, .int 1680), (.sipush 800, 3, 0, 0, .int 800), (.iload_n 1, 1, 1, 0, .null), (.imul, 1, 0, 0, .null), (.iadd, 1, 0, 0, .null), (.sipush 140, 3, 0, 0, .int 140), (.iadd, 1, 0, 0, .null), (.iconst 2, 1, 0, 0, .int 2), (.iload 7, 2, 7, 0, .null), (.imul, 1, 0, 0, .null), (.iadd, 1, 0, 0, .null), (.iconst 1, 1, 0, 0, .int 1), (.iadd, 1, 0, 0, .null), (.iaload, 1, 0, 0, .null), (.istore 9, 2, 9, 0, .null), (.iload 8, 2, 8, 0, .null)]) (L' := [some (.ref 93), some (.int x1), some (.int x2), some (.int x3), some (.int x4), some (.int x5), some (.int x6), some (.int x7), some (.int (w.1 94 (Int32.toNatClampNeg (((1680 + (800 * x1)) + 140) + (2 * x7))))), some (.int (w.1 94 (Int32.toNatClampNeg ((((1680 + (800 * x1)) + 140) + (2 * x7)) + 1))))]) (st' := [.int (w.1 94 (Int32.toNatClampNeg (((1680 + (800 * x1)) + 140) + (2 * x7))))]) (w' := w) (g := [jin ((((1680 + (800 * x1)) + 140) + (2 * x7)) + 1) 21000, jin (((1680 + (800 * x1)) + 140) + (2 * x7)) 21000]) (K := [(94, 20), (94, 20), (93, 10), (94, 20), (94, 20), (93, 10)]) (by decide +kernel) rfl rfl rfl hg4 (jk1 kz_94 (jk1 kz_94 (jk1 kz_93 (jk1 kz_94 (jk1 kz_94 (jk1 kz_93 jk0)))))) ?_
      refine ev_if_eq (off := 9) (tgt := 92) (by decide +kernel) (by decide) (fun c45 => ?_) (fun c45 => ?_)
      · replace h := jpos c45 h
        refine ev_mask [true, true, true, true, true, true, true, true, true, true] ?_
        exact t_Model_isSo_j92 hG ih h
      · replace h := jneg c45 h
        refine ev_seg (o := 10) (nL := 10) (q := 89) (xs := [(.iload 8, 2, 8, 0, .null), (.iconst 1, 1, 0, 0, .int 1)]) (L' := [some (.ref 93), some (.int x1), some (.int x2), some (.int x3), some (.int x4), some (.int x5), some (.int x6), some (.int x7), some (.int (w.1 94 (Int32.toNatClampNeg (((1680 + (800 * x1)) + 140) + (2 * x7))))), some (.int (w.1 94 (Int32.toNatClampNeg ((((1680 + (800 * x1)) + 140) + (2 * x7)) + 1))))]) (st' := [.int 1, .int (w.1 94 (Int32.toNatClampNeg (((1680 + (800 * x1)) + 140) + (2 * x7))))]) (w' := w) (g := []) (K := []) (by decide +kernel) rfl rfl rfl rfl jk0 ?_
        refine ev_icmp_ne (off := 35) (tgt := 124) (by decide +kernel) (by decide) (fun c44 => ?_) (fun c44 => ?_)
        · replace h := jneg c44 h
          refine ev_seg (o := 10) (nL := 10) (q := 128) (xs := [(.iload 8, 2, 8, 0, .null), (.bipush 21, 2, 0, 0, .int 21)]) (L' := [some (.ref 93), some (.int x1), some (.int x2), some (.int x3), some (.int x4), some (.int x5), some (.int x6), some (.int x7), some (.int (w.1 94 (Int32.toNatClampNeg (((1680 + (800 * x1)) + 140) + (2 * x7))))), some (.int (w.1 94 (Int32.toNatClampNeg ((((1680 + (800 * x1)) + 140) + (2 * x7)) + 1))))]) (st' := [.int 21, .int (w.1 94 (Int32.toNatClampNeg (((1680 + (800 * x1)) + 140) + (2 * x7))))]) (w' := w) (g := []) (K := []) (by decide +kernel) rfl rfl rfl rfl jk0 ?_
          refine ev_icmp_ge (off := 40) (tgt := 168) (by decide +kernel) (by decide) (fun c43 => ?_) (fun c43 => ?_)
          · replace h := jneg c43 h
            refine ev_seg (o := 10) (nL := 10) (q := 172) (xs := [(.iload 8, 2, 8, 0, .null), (.bipush 30, 2, 0, 0, .int 30)]) (L' := [some (.ref 93), some (.int x1), some (.int x2), some (.int x3), some (.int x4), some (.int x5), some (.int x6), some (.int x7), some (.int (w.1 94 (Int32.toNatClampNeg (((1680 + (800 * x1)) + 140) + (2 * x7))))), some (.int (w.1 94 (Int32.toNatClampNeg ((((1680 + (800 * x1)) + 140) + (2 * x7)) + 1))))]) (st' := [.int 30, .int (w.1 94 (Int32.toNatClampNeg (((1680 + (800 * x1)) + 140) + (2 * x7))))]) (w' := w) (g := []) (K := []) (by decide +kernel) rfl rfl rfl rfl jk0 ?_
            refine ev_icmp_ne (off := 32) (tgt := 204) (by decide +kernel) (by decide) (fun c38 => ?_) (fun c38 => ?_)
            · replace h := jneg c38 h
              refine ev_seg (o := 10) (nL := 10) (q := 219) (xs := [(.iinc 6 (-1), 3, 6, 0, .int (-1)), (.aload_n 0, 1, 0, 0, .null), (.getfield 35, 3, 10, 19, .ref 21), (.iload 6, 2, 6, 0, .null), (.iconst 1, 1, 0, 0, .int 1), (.isub, 1, 0, 0, .null), (.iload 8, 2, 8, 0, .null), (.bipush 22, 2, 0, 0, .int 22)]) (L' := [some (.ref 93), some (.int x1), some (.int x2), some (.int x3), some (.int x4), some (.int x5), some (.int (x6 + (-1))), some (.int x7), some (.int (w.1 94 (Int32.toNatClampNeg (((1680 + (800 * x1)) + 140) + (2 * x7))))), some (.int (w.1 94 (Int32.toNatClampNeg ((((1680 + (800 * x1)) + 140) + (2 * x7)) + 1))))]) (st' := [.int 22, .int (w.1 94 (Int32.toNatClampNeg (((1680 + (800 * x1)) + 140) + (2 * x7)))), .int ((x6 + (-1)) - 1), .ref 100]) (w' := w) (g := []) (K := [(100, 21), (93, 10)]) (by decide +kernel) rfl rfl rfl rfl (jk1 kz_100 (jk1 kz_93 jk0)) ?_
              refine ev_icmp_ne (off := 33) (tgt := 252) (by decide +kernel) (by decide) (fun c31 => ?_) (fun c31 => ?_)
              · replace h := jneg c31 h
                obtain ⟨hg11, h⟩ := jgd h
                refine ev_seg (o := 10) (nL := 10) (q := 261) (xs := [(.aload_n 0, 1, 0, 0, .null), (.getfield 35, 3, 10, 19, .ref 21), (.iload 6, 2, 6, 0, .null), (.iconst 1, 1, 0, 0, .int 1), (.isub, 1, 0, 0, .null), (.baload, 1, 0, 0, .null)]) (L' := [some (.ref 93), some (.int x1), some (.int x2), some (.int x3), some (.int x4), some (.int x5), some (.int (x6 + (-1))), some (.int x7), some (.int (w.1 94 (Int32.toNatClampNeg (((1680 + (800 * x1)) + 140) + (2 * x7))))), some (.int (w.1 94 (Int32.toNatClampNeg ((((1680 + (800 * x1)) + 140) + (2 * x7)) + 1))))]) (st' := [.int (w.1 100 (Int32.toNatClampNeg ((x6 + (-1)) - 1))), .int ((x6 + (-1)) - 1), .ref 100]) (w' := w) (g := [jin ((x6 + (-1)) - 1) 320]) (K := [(100, 21), (100, 21), (93, 10)]) (by decide +kernel) rfl rfl rfl hg11 (jk1 kz_100 (jk1 kz_100 (jk1 kz_93 jk0))) ?_
                refine ev_if_ne (off := 13) (tgt := 274) (by decide +kernel) (by decide) (fun c20 => ?_) (fun c20 => ?_)
                · replace h := jneg c20 h
                  obtain ⟨hg12, h⟩ := jgd h
                  refine ev_seg (o := 10) (nL := 10) (q := 280) (xs := [(.iconst 1, 1, 0, 0, .int 1), (.goto 4, 3, 0, 0, .null), (.bastore, 1, 0, 0, .null)]) (L' := [some (.ref 93), some (.int x1), some (.int x2), some (.int x3), some (.int x4), some (.int x5), some (.int (x6 + (-1))), some (.int x7), some (.int (w.1 94 (Int32.toNatClampNeg (((1680 + (800 * x1)) + 140) + (2 * x7))))), some (.int (w.1 94 (Int32.toNatClampNeg ((((1680 + (800 * x1)) + 140) + (2 * x7)) + 1))))]) (st' := []) (w' := ((jup w.1 100 (Int32.toNatClampNeg ((x6 + (-1)) - 1)) 1), w.2)) (g := [jbo 1, jin ((x6 + (-1)) - 1) 320]) (K := [(100, 21)]) (by decide +kernel) rfl rfl rfl hg12 (jk1 kz_100 jk0) ?_
                  refine jlw_c (P := fun w13 => Ev l G (jrm d_Model_isSo 0 0) y_Model_isSo (some (.int z.1), jR0, z.2) 0 0 0 0 280 [some (.ref 93), some (.int x1), some (.int x2), some (.int x3), some (.int x4), some (.int x5), some (.int (x6 + (-1))), some (.int x7), some (.int (w.1 94 (Int32.toNatClampNeg (((1680 + (800 * x1)) + 140) + (2 * x7))))), some (.int (w.1 94 (Int32.toNatClampNeg ((((1680 + (800 * x1)) + 140) + (2 * x7)) + 1))))] [] jR0 w13) h fun w13 h => ?_
                  refine ev_seg (o := 10) (nL := 10) (q := 16) (xs := [(.iinc 7 1, 3, 7, 0, .int 1), (.goto (-267), 3, 0, 0, .null)]) (L' := [some (.ref 93), some (.int x1), some (.int x2), some (.int x3), some (.int x4), some (.int x5), some (.int (x6 + (-1))), some (.int (x7 + 1)), some (.int (w.1 94 (Int32.toNatClampNeg (((1680 + (800 * x1)) + 140) + (2 * x7))))), some (.int (w.1 94 (Int32.toNatClampNeg ((((1680 + (800 * x1)) + 140) + (2 * x7)) + 1))))]) (st' := []) (w' := w13) (g := []) (K := []) (by decide +kernel) rfl rfl rfl rfl jk0 ?_
                  refine ev_mask [true, true, true, true, true, true, true, true, false, false] ?_
                  exact ih _ _ _ _ _ _ _ _ _ h
                · replace h := jpos c20 h
                  obtain ⟨hg14, h⟩ := jgd h
                  refine ev_seg (o := 10) (nL := 10) (q := 271) (xs := [(.aload_n 0, 1, 0, 0, .null), (.getfield 35, 3, 10, 19, .ref 21), (.iload 6, 2, 6, 0, .null), (.baload, 1, 0, 0, .null)]) (L' := [some (.ref 93), some (.int x1), some (.int x2), some (.int x3), some (.int x4), some (.int x5), some (.int (x6 + (-1))), some (.int x7), some (.int (w.1 94 (Int32.toNatClampNeg (((1680 + (800 * x1)) + 140) + (2 * x7))))), some (.int (w.1 94 (Int32.toNatClampNeg ((((1680 + (800 * x1)) + 140) + (2 * x7)) + 1))))]) (st' := [.int (w.1 100 (Int32.toNatClampNeg (x6 + (-1)))), .int ((x6 + (-1)) - 1), .ref 100]) (w' := w) (g := [jin (x6 + (-1)) 320]) (K := [(100, 21), (100, 21), (93, 10)]) (by decide +kernel) rfl rfl rfl hg14 (jk1 kz_100 (jk1 kz_100 (jk1 kz_93 jk0))) ?_
                  refine ev_if_eq (off := 7) (tgt := 278) (by decide +kernel) (by decide) (fun c19 => ?_) (fun c19 => ?_)
                  · replace h := jpos c19 h
                    obtain ⟨hg15, h⟩ := jgd h
                    refine ev_seg (o := 10) (nL := 10) (q := 280) (xs := [(.iconst 0, 1, 0, 0, .int 0), (.bastore, 1, 0, 0, .null)]) (L' := [some (.ref 93), some (.int x1), some (.int x2), some (.int x3), some (.int x4), some (.int x5), some (.int (x6 + (-1))), some (.int x7), some (.int (w.1 94 (Int32.toNatClampNeg (((1680 + (800 * x1)) + 140) + (2 * x7))))), some (.int (w.1 94 (Int32.toNatClampNeg ((((1680 + (800 * x1)) + 140) + (2 * x7)) + 1))))]) (st' := []) (w' := ((jup w.1 100 (Int32.toNatClampNeg ((x6 + (-1)) - 1)) 0), w.2)) (g := [jbo 0, jin ((x6 + (-1)) - 1) 320]) (K := [(100, 21)]) (by decide +kernel) rfl rfl rfl hg15 (jk1 kz_100 jk0) ?_
                    refine jlw_c (P := fun w16 => Ev l G (jrm d_Model_isSo 0 0) y_Model_isSo (some (.int z.1), jR0, z.2) 0 0 0 0 280 [some (.ref 93), some (.int x1), some (.int x2), some (.int x3), some (.int x4), some (.int x5), some (.int (x6 + (-1))), some (.int x7), some (.int (w.1 94 (Int32.toNatClampNeg (((1680 + (800 * x1)) + 140) + (2 * x7))))), some (.int (w.1 94 (Int32.toNatClampNeg ((((1680 + (800 * x1)) + 140) + (2 * x7)) + 1))))] [] jR0 w16) h fun w16 h => ?_
                    refine ev_seg (o := 10) (nL := 10) (q := 16) (xs := [(.iinc 7 1, 3, 7, 0, .int 1), (.goto (-267), 3, 0, 0, .null)]) (L' := [some (.ref 93), some (.int x1), some (.int x2), some (.int x3), some (.int x4), some (.int x5), some (.int (x6 + (-1))), some (.int (x7 + 1)), some (.int (w.1 94 (Int32.toNatClampNeg (((1680 + (800 * x1)) + 140) + (2 * x7))))), some (.int (w.1 94 (Int32.toNatClampNeg ((((1680 + (800 * x1)) + 140) + (2 * x7)) + 1))))]) (st' := []) (w' := w16) (g := []) (K := []) (by decide +kernel) rfl rfl rfl rfl jk0 ?_
                    refine ev_mask [true, true, true, true, true, true, true, true, false, false] ?_
                    exact ih _ _ _ _ _ _ _ _ _ h
                  · replace h := jneg c19 h
                    obtain ⟨hg17, h⟩ := jgd h
                    refine ev_seg (o := 10) (nL := 10) (q := 280) (xs := [(.iconst 1, 1, 0, 0, .int 1), (.goto 4, 3, 0, 0, .null), (.bastore, 1, 0, 0, .null)]) (L' := [some (.ref 93), some (.int x1), some (.int x2), some (.int x3), some (.int x4), some (.int x5), some (.int (x6 + (-1))), some (.int x7), some (.int (w.1 94 (Int32.toNatClampNeg (((1680 + (800 * x1)) + 140) + (2 * x7))))), some (.int (w.1 94 (Int32.toNatClampNeg ((((1680 + (800 * x1)) + 140) + (2 * x7)) + 1))))]) (st' := []) (w' := ((jup w.1 100 (Int32.toNatClampNeg ((x6 + (-1)) - 1)) 1), w.2)) (g := [jbo 1, jin ((x6 + (-1)) - 1) 320]) (K := [(100, 21)]) (by decide +kernel) rfl rfl rfl hg17 (jk1 kz_100 jk0) ?_
                    refine jlw_c (P := fun w18 => Ev l G (jrm d_Model_isSo 0 0) y_Model_isSo (some (.int z.1), jR0, z.2) 0 0 0 0 280 [some (.ref 93), some (.int x1), some (.int x2), some (.int x3), some (.int x4), some (.int x5), some (.int (x6 + (-1))), some (.int x7), some (.int (w.1 94 (Int32.toNatClampNeg (((1680 + (800 * x1)) + 140) + (2 * x7))))), some (.int (w.1 94 (Int32.toNatClampNeg ((((1680 + (800 * x1)) + 140) + (2 * x7)) + 1))))] [] jR0 w18) h fun w18 h => ?_
                    refine ev_seg (o := 10) (nL := 10) (q := 16) (xs := [(.iinc 7 1, 3, 7, 0, .int 1), (.goto (-267), 3, 0, 0, .null)]) (L' := [some (.ref 93), some (.int x1), some (.int x2), some (.int x3), some (.int x4), some (.int x5), some (.int (x6 + (-1))), some (.int (x7 + 1)), some (.int (w.1 94 (Int32.toNatClampNeg (((1680 + (800 * x1)) + 140) + (2 * x7))))), some (.int (w.1 94 (Int32.toNatClampNeg ((((1680 + (800 * x1)) + 140) + (2 * x7)) + 1))))]) (st' := []) (w' := w18) (g := []) (K := []) (by decide +kernel) rfl rfl rfl rfl jk0 ?_
                    refine ev_mask [true, true, true, true, true, true, true, true, false, false] ?_
                    exact ih _ _ _ _ _ _ _ _ _ h
              · replace h := jpos c31 h
                obtain ⟨hg21, h⟩ := jgd h
                refine ev_seg (o := 10) (nL := 10) (q := 231) (xs := [(.aload_n 0, 1, 0, 0, .null), (.getfield 35, 3, 10, 19, .ref 21), (.iload 6, 2, 6, 0, .null), (.iconst 1, 1, 0, 0, .int 1), (.isub, 1, 0, 0, .null), (.baload, 1, 0, 0, .null)]) (L' := [some (.ref 93), some (.int x1), some (.int x2), some (.int x3), some (.int x4), some (.int x5), some (.int (x6 + (-1))), some (.int x7), some (.int (w.1 94 (Int32.toNatClampNeg (((1680 + (800 * x1)) + 140) + (2 * x7))))), some (.int (w.1 94 (Int32.toNatClampNeg ((((1680 + (800 * x1)) + 140) + (2 * x7)) + 1))))]) (st' := [.int (w.1 100 (Int32.toNatClampNeg ((x6 + (-1)) - 1))), .int ((x6 + (-1)) - 1), .ref 100]) (w' := w) (g := [jin ((x6 + (-1)) - 1) 320]) (K := [(100, 21), (100, 21), (93, 10)]) (by decide +kernel) rfl rfl rfl hg21 (jk1 kz_100 (jk1 kz_100 (jk1 kz_93 jk0))) ?_
                refine ev_if_eq (off := 17) (tgt := 248) (by decide +kernel) (by decide) (fun c30 => ?_) (fun c30 => ?_)
                · replace h := jpos c30 h
                  obtain ⟨hg22, h⟩ := jgd h
                  refine ev_seg (o := 10) (nL := 10) (q := 280) (xs := [(.iconst 0, 1, 0, 0, .int 0), (.goto 30, 3, 0, 0, .null), (.bastore, 1, 0, 0, .null)]) (L' := [some (.ref 93), some (.int x1), some (.int x2), some (.int x3), some (.int x4), some (.int x5), some (.int (x6 + (-1))), some (.int x7), some (.int (w.1 94 (Int32.toNatClampNeg (((1680 + (800 * x1)) + 140) + (2 * x7))))), some (.int (w.1 94 (Int32.toNatClampNeg ((((1680 + (800 * x1)) + 140) + (2 * x7)) + 1))))]) (st' := []) (w' := ((jup w.1 100 (Int32.toNatClampNeg ((x6 + (-1)) - 1)) 0), w.2)) (g := [jbo 0, jin ((x6 + (-1)) - 1) 320]) (K := [(100, 21)]) (by decide +kernel) rfl rfl rfl hg22 (jk1 kz_100 jk0) ?_
                  refine jlw_c (P := fun w23 => Ev l G (jrm d_Model_isSo 0 0) y_Model_isSo (some (.int z.1), jR0, z.2) 0 0 0 0 280 [some (.ref 93), some (.int x1), some (.int x2), some (.int x3), some (.int x4), some (.int x5), some (.int (x6 + (-1))), some (.int x7), some (.int (w.1 94 (Int32.toNatClampNeg (((1680 + (800 * x1)) + 140) + (2 * x7))))), some (.int (w.1 94 (Int32.toNatClampNeg ((((1680 + (800 * x1)) + 140) + (2 * x7)) + 1))))] [] jR0 w23) h fun w23 h => ?_
                  refine ev_seg (o := 10) (nL := 10) (q := 16) (xs := [(.iinc 7 1, 3, 7, 0, .int 1), (.goto (-267), 3, 0, 0, .null)]) (L' := [some (.ref 93), some (.int x1), some (.int x2), some (.int x3), some (.int x4), some (.int x5), some (.int (x6 + (-1))), some (.int (x7 + 1)), some (.int (w.1 94 (Int32.toNatClampNeg (((1680 + (800 * x1)) + 140) + (2 * x7))))), some (.int (w.1 94 (Int32.toNatClampNeg ((((1680 + (800 * x1)) + 140) + (2 * x7)) + 1))))]) (st' := []) (w' := w23) (g := []) (K := []) (by decide +kernel) rfl rfl rfl rfl jk0 ?_
                  refine ev_mask [true, true, true, true, true, true, true, true, false, false] ?_
                  exact ih _ _ _ _ _ _ _ _ _ h
                · replace h := jneg c30 h
                  obtain ⟨hg24, h⟩ := jgd h
                  refine ev_seg (o := 10) (nL := 10) (q := 241) (xs := [(.aload_n 0, 1, 0, 0, .null), (.getfield 35, 3, 10, 19, .ref 21), (.iload 6, 2, 6, 0, .null), (.baload, 1, 0, 0, .null)]) (L' := [some (.ref 93), some (.int x1), some (.int x2), some (.int x3), some (.int x4), some (.int x5), some (.int (x6 + (-1))), some (.int x7), some (.int (w.1 94 (Int32.toNatClampNeg (((1680 + (800 * x1)) + 140) + (2 * x7))))), some (.int (w.1 94 (Int32.toNatClampNeg ((((1680 + (800 * x1)) + 140) + (2 * x7)) + 1))))]) (st' := [.int (w.1 100 (Int32.toNatClampNeg (x6 + (-1)))), .int ((x6 + (-1)) - 1), .ref 100]) (w' := w) (g := [jin (x6 + (-1)) 320]) (K := [(100, 21), (100, 21), (93, 10)]) (by decide +kernel) rfl rfl rfl hg24 (jk1 kz_100 (jk1 kz_100 (jk1 kz_93 jk0))) ?_
                  refine ev_if_eq (off := 7) (tgt := 248) (by decide +kernel) (by decide) (fun c29 => ?_) (fun c29 => ?_)
                  · replace h := jpos c29 h
                    obtain ⟨hg25, h⟩ := jgd h
                    refine ev_seg (o := 10) (nL := 10) (q := 280) (xs := [(.iconst 0, 1, 0, 0, .int 0), (.goto 30, 3, 0, 0, .null), (.bastore, 1, 0, 0, .null)]) (L' := [some (.ref 93), some (.int x1), some (.int x2), some (.int x3), some (.int x4), some (.int x5), some (.int (x6 + (-1))), some (.int x7), some (.int (w.1 94 (Int32.toNatClampNeg (((1680 + (800 * x1)) + 140) + (2 * x7))))), some (.int (w.1 94 (Int32.toNatClampNeg ((((1680 + (800 * x1)) + 140) + (2 * x7)) + 1))))]) (st' := []) (w' := ((jup w.1 100 (Int32.toNatClampNeg ((x6 + (-1)) - 1)) 0), w.2)) (g := [jbo 0, jin ((x6 + (-1)) - 1) 320]) (K := [(100, 21)]) (by decide +kernel) rfl rfl rfl hg25 (jk1 kz_100 jk0) ?_
                    refine jlw_c (P := fun w26 => Ev l G (jrm d_Model_isSo 0 0) y_Model_isSo (some (.int z.1), jR0, z.2) 0 0 0 0 280 [some (.ref 93), some (.int x1), some (.int x2), some (.int x3), some (.int x4), some (.int x5), some (.int (x6 + (-1))), some (.int x7), some (.int (w.1 94 (Int32.toNatClampNeg (((1680 + (800 * x1)) + 140) + (2 * x7))))), some (.int (w.1 94 (Int32.toNatClampNeg ((((1680 + (800 * x1)) + 140) + (2 * x7)) + 1))))] [] jR0 w26) h fun w26 h => ?_
                    refine ev_seg (o := 10) (nL := 10) (q := 16) (xs := [(.iinc 7 1, 3, 7, 0, .int 1), (.goto (-267), 3, 0, 0, .null)]) (L' := [some (.ref 93), some (.int x1), some (.int x2), some (.int x3), some (.int x4), some (.int x5), some (.int (x6 + (-1))), some (.int (x7 + 1)), some (.int (w.1 94 (Int32.toNatClampNeg (((1680 + (800 * x1)) + 140) + (2 * x7))))), some (.int (w.1 94 (Int32.toNatClampNeg ((((1680 + (800 * x1)) + 140) + (2 * x7)) + 1))))]) (st' := []) (w' := w26) (g := []) (K := []) (by decide +kernel) rfl rfl rfl rfl jk0 ?_
                    refine ev_mask [true, true, true, true, true, true, true, true, false, false] ?_
                    exact ih _ _ _ _ _ _ _ _ _ h
                  · replace h := jneg c29 h
                    obtain ⟨hg27, h⟩ := jgd h
                    refine ev_seg (o := 10) (nL := 10) (q := 280) (xs := [(.iconst 1, 1, 0, 0, .int 1), (.goto 34, 3, 0, 0, .null), (.bastore, 1, 0, 0, .null)]) (L' := [some (.ref 93), some (.int x1), some (.int x2), some (.int x3), some (.int x4), some (.int x5), some (.int (x6 + (-1))), some (.int x7), some (.int (w.1 94 (Int32.toNatClampNeg (((1680 + (800 * x1)) + 140) + (2 * x7))))), some (.int (w.1 94 (Int32.toNatClampNeg ((((1680 + (800 * x1)) + 140) + (2 * x7)) + 1))))]) (st' := []) (w' := ((jup w.1 100 (Int32.toNatClampNeg ((x6 + (-1)) - 1)) 1), w.2)) (g := [jbo 1, jin ((x6 + (-1)) - 1) 320]) (K := [(100, 21)]) (by decide +kernel) rfl rfl rfl hg27 (jk1 kz_100 jk0) ?_
                    refine jlw_c (P := fun w28 => Ev l G (jrm d_Model_isSo 0 0) y_Model_isSo (some (.int z.1), jR0, z.2) 0 0 0 0 280 [some (.ref 93), some (.int x1), some (.int x2), some (.int x3), some (.int x4), some (.int x5), some (.int (x6 + (-1))), some (.int x7), some (.int (w.1 94 (Int32.toNatClampNeg (((1680 + (800 * x1)) + 140) + (2 * x7))))), some (.int (w.1 94 (Int32.toNatClampNeg ((((1680 + (800 * x1)) + 140) + (2 * x7)) + 1))))] [] jR0 w28) h fun w28 h => ?_
                    refine ev_seg (o := 10) (nL := 10) (q := 16) (xs := [(.iinc 7 1, 3, 7, 0, .int 1), (.goto (-267), 3, 0, 0, .null)]) (L' := [some (.ref 93), some (.int x1), some (.int x2), some (.int x3), some (.int x4), some (.int x5), some (.int (x6 + (-1))), some (.int (x7 + 1)), some (.int (w.1 94 (Int32.toNatClampNeg (((1680 + (800 * x1)) + 140) + (2 * x7))))), some (.int (w.1 94 (Int32.toNatClampNeg ((((1680 + (800 * x1)) + 140) + (2 * x7)) + 1))))]) (st' := []) (w' := w28) (g := []) (K := []) (by decide +kernel) rfl rfl rfl rfl jk0 ?_
                    refine ev_mask [true, true, true, true, true, true, true, true, false, false] ?_
                    exact ih _ _ _ _ _ _ _ _ _ h
            · replace h := jpos c38 h
              obtain ⟨hg32, h⟩ := jgd h
              refine ev_seg (o := 10) (nL := 10) (q := 192) (xs := [(.aload_n 0, 1, 0, 0, .null), (.getfield 35, 3, 10, 19, .ref 21), (.iload 6, 2, 6, 0, .null), (.iconst 1, 1, 0, 0, .int 1), (.isub, 1, 0, 0, .null), (.aload_n 0, 1, 0, 0, .null), (.getfield 35, 3, 10, 19, .ref 21), (.iload 6, 2, 6, 0, .null), (.iconst 1, 1, 0, 0, .int 1), (.isub, 1, 0, 0, .null), (.baload, 1, 0, 0, .null)]) (L' := [some (.ref 93), some (.int x1), some (.int x2), some (.int x3), some (.int x4), some (.int x5), some (.int x6), some (.int x7), some (.int (w.1 94 (Int32.toNatClampNeg (((1680 + (800 * x1)) + 140) + (2 * x7))))), some (.int (w.1 94 (Int32.toNatClampNeg ((((1680 + (800 * x1)) + 140) + (2 * x7)) + 1))))]) (st' := [.int (w.1 100 (Int32.toNatClampNeg (x6 - 1))), .int (x6 - 1), .ref 100]) (w' := w) (g := [jin (x6 - 1) 320]) (K := [(100, 21), (100, 21), (93, 10), (100, 21), (93, 10)]) (by decide +kernel) rfl rfl rfl hg32 (jk1 kz_100 (jk1 kz_100 (jk1 kz_93 (jk1 kz_100 (jk1 kz_93 jk0))))) ?_
              refine ev_if_ne (off := 7) (tgt := 199) (by decide +kernel) (by decide) (fun c37 => ?_) (fun c37 => ?_)
              · replace h := jneg c37 h
                obtain ⟨hg33, h⟩ := jgd h
                refine ev_seg (o := 10) (nL := 10) (q := 201) (xs := [(.iconst 0, 1, 0, 0, .int 0), (.bastore, 1, 0, 0, .null)]) (L' := [some (.ref 93), some (.int x1), some (.int x2), some (.int x3), some (.int x4), some (.int x5), some (.int x6), some (.int x7), some (.int (w.1 94 (Int32.toNatClampNeg (((1680 + (800 * x1)) + 140) + (2 * x7))))), some (.int (w.1 94 (Int32.toNatClampNeg ((((1680 + (800 * x1)) + 140) + (2 * x7)) + 1))))]) (st' := []) (w' := ((jup w.1 100 (Int32.toNatClampNeg (x6 - 1)) 0), w.2)) (g := [jbo 0, jin (x6 - 1) 320]) (K := [(100, 21)]) (by decide +kernel) rfl rfl rfl hg33 (jk1 kz_100 jk0) ?_
                refine jlw_c (P := fun w34 => Ev l G (jrm d_Model_isSo 0 0) y_Model_isSo (some (.int z.1), jR0, z.2) 0 0 0 0 201 [some (.ref 93), some (.int x1), some (.int x2), some (.int x3), some (.int x4), some (.int x5), some (.int x6), some (.int x7), some (.int (w.1 94 (Int32.toNatClampNeg (((1680 + (800 * x1)) + 140) + (2 * x7))))), some (.int (w.1 94 (Int32.toNatClampNeg ((((1680 + (800 * x1)) + 140) + (2 * x7)) + 1))))] [] jR0 w34) h fun w34 h => ?_
                refine ev_seg (o := 10) (nL := 10) (q := 16) (xs := [(.goto 79, 3, 0, 0, .null), (.iinc 7 1, 3, 7, 0, .int 1), (.goto (-267), 3, 0, 0, .null)]) (L' := [some (.ref 93), some (.int x1), some (.int x2), some (.int x3), some (.int x4), some (.int x5), some (.int x6), some (.int (x7 + 1)), some (.int (w.1 94 (Int32.toNatClampNeg (((1680 + (800 * x1)) + 140) + (2 * x7))))), some (.int (w.1 94 (Int32.toNatClampNeg ((((1680 + (800 * x1)) + 140) + (2 * x7)) + 1))))]) (st' := []) (w' := w34) (g := []) (K := []) (by decide +kernel) rfl rfl rfl rfl jk0 ?_
                refine ev_mask [true, true, true, true, true, true, true, true, false, false] ?_
                exact ih _ _ _ _ _ _ _ _ _ h
              · replace h := jpos c37 h
                obtain ⟨hg35, h⟩ := jgd h
                refine ev_seg (o := 10) (nL := 10) (q := 201) (xs := [(.iconst 1, 1, 0, 0, .int 1), (.goto 4, 3, 0, 0, .null), (.bastore, 1, 0, 0, .null)]) (L' := [some (.ref 93), some (.int x1), some (.int x2), some (.int x3), some (.int x4), some (.int x5), some (.int x6), some (.int x7), some (.int (w.1 94 (Int32.toNatClampNeg (((1680 + (800 * x1)) + 140) + (2 * x7))))), some (.int (w.1 94 (Int32.toNatClampNeg ((((1680 + (800 * x1)) + 140) + (2 * x7)) + 1))))]) (st' := []) (w' := ((jup w.1 100 (Int32.toNatClampNeg (x6 - 1)) 1), w.2)) (g := [jbo 1, jin (x6 - 1) 320]) (K := [(100, 21)]) (by decide +kernel) rfl rfl rfl hg35 (jk1 kz_100 jk0) ?_
                refine jlw_c (P := fun w36 => Ev l G (jrm d_Model_isSo 0 0) y_Model_isSo (some (.int z.1), jR0, z.2) 0 0 0 0 201 [some (.ref 93), some (.int x1), some (.int x2), some (.int x3), some (.int x4), some (.int x5), some (.int x6), some (.int x7), some (.int (w.1 94 (Int32.toNatClampNeg (((1680 + (800 * x1)) + 140) + (2 * x7))))), some (.int (w.1 94 (Int32.toNatClampNeg ((((1680 + (800 * x1)) + 140) + (2 * x7)) + 1))))] [] jR0 w36) h fun w36 h => ?_
                refine ev_seg (o := 10) (nL := 10) (q := 16) (xs := [(.goto 79, 3, 0, 0, .null), (.iinc 7 1, 3, 7, 0, .int 1), (.goto (-267), 3, 0, 0, .null)]) (L' := [some (.ref 93), some (.int x1), some (.int x2), some (.int x3), some (.int x4), some (.int x5), some (.int x6), some (.int (x7 + 1)), some (.int (w.1 94 (Int32.toNatClampNeg (((1680 + (800 * x1)) + 140) + (2 * x7))))), some (.int (w.1 94 (Int32.toNatClampNeg ((((1680 + (800 * x1)) + 140) + (2 * x7)) + 1))))]) (st' := []) (w' := w36) (g := []) (K := []) (by decide +kernel) rfl rfl rfl rfl jk0 ?_
                refine ev_mask [true, true, true, true, true, true, true, true, false, false] ?_
                exact ih _ _ _ _ _ _ _ _ _ h
          · replace h := jpos c43 h
            obtain ⟨hg39, h⟩ := jgd h
            refine ev_seg (o := 10) (nL := 10) (q := 158) (xs := [(.iinc 5 (-2), 3, 5, 0, .int (-2)), (.aload_n 0, 1, 0, 0, .null), (.getfield 35, 3, 10, 19, .ref 21), (.iload 6, 2, 6, 0, .null), (.iload 8, 2, 8, 0, .null), (.aload_n 0, 1, 0, 0, .null), (.getfield 32, 3, 10, 18, .ref 20), (.iload 5, 2, 5, 0, .null), (.iaload, 1, 0, 0, .null), (.aload_n 0, 1, 0, 0, .null), (.getfield 32, 3, 10, 18, .ref 20), (.iload 5, 2, 5, 0, .null), (.iconst 1, 1, 0, 0, .int 1), (.iadd, 1, 0, 0, .null), (.iaload, 1, 0, 0, .null)]) (L' := [some (.ref 93), some (.int x1), some (.int x2), some (.int x3), some (.int x4), some (.int (x5 + (-2))), some (.int x6), some (.int x7), some (.int (w.1 94 (Int32.toNatClampNeg (((1680 + (800 * x1)) + 140) + (2 * x7))))), some (.int (w.1 94 (Int32.toNatClampNeg ((((1680 + (800 * x1)) + 140) + (2 * x7)) + 1))))]) (st' := [.int (w.1 99 (Int32.toNatClampNeg ((x5 + (-2)) + 1))), .int (w.1 99 (Int32.toNatClampNeg (x5 + (-2)))), .int (w.1 94 (Int32.toNatClampNeg (((1680 + (800 * x1)) + 140) + (2 * x7)))), .int x6, .ref 100]) (w' := w) (g := [jin ((x5 + (-2)) + 1) 320, jin (x5 + (-2)) 320]) (K := [(99, 20), (99, 20), (93, 10), (99, 20), (99, 20), (93, 10), (100, 21), (93, 10)]) (by decide +kernel) rfl rfl rfl hg39 (jk1 kz_99 (jk1 kz_99 (jk1 kz_93 (jk1 kz_99 (jk1 kz_99 (jk1 kz_93 (jk1 kz_100 (jk1 kz_93 jk0)))))))) ?_
            obtain ⟨q40, hq40, h⟩ := jbe h
            refine ev_callS (y2 := y_Model_isAsked) (o := 10) (idx := 251) (d2 := d_Model_isAsked) (n := 3) (mc2 := 0) (ms2 := 0) (As := [.int (w.1 94 (Int32.toNatClampNeg (((1680 + (800 * x1)) + 140) + (2 * x7)))), .int (w.1 99 (Int32.toNatClampNeg (x5 + (-2)))), .int (w.1 99 (Int32.toNatClampNeg ((x5 + (-2)) + 1)))]) (st := [.int x6, .ref 100]) (res2 := (some (.int q40.1), jR0, q40.2)) (by decide +kernel) rfl lk_10_251 mo_Model_isAsked ms_Model_isAsked ⟨Nat.le_of_ble_eq_true rfl, Nat.le_of_ble_eq_true rfl⟩ rfl rfl (Nat.le_of_ble_eq_true rfl) ⟨Nat.le_refl _, Nat.le_refl _⟩ hG (e_Model_isAsked hG hq40) ?_
            obtain ⟨hg41, h⟩ := jgd h
            refine ev_seg (o := 10) (nL := 10) (q := 162) (xs := [(.bastore, 1, 0, 0, .null)]) (L' := [some (.ref 93), some (.int x1), some (.int x2), some (.int x3), some (.int x4), some (.int (x5 + (-2))), some (.int x6), some (.int x7), some (.int (w.1 94 (Int32.toNatClampNeg (((1680 + (800 * x1)) + 140) + (2 * x7))))), some (.int (w.1 94 (Int32.toNatClampNeg ((((1680 + (800 * x1)) + 140) + (2 * x7)) + 1))))]) (st' := []) (w' := ((jup q40.2.1 100 (Int32.toNatClampNeg x6) q40.1), q40.2.2)) (g := [jbo q40.1, jin x6 320]) (K := [(100, 21)]) (by decide +kernel) rfl rfl rfl hg41 (jk1 kz_100 jk0) ?_
            refine jlw_c (P := fun w42 => Ev l G (jrm d_Model_isSo 0 0) y_Model_isSo (some (.int z.1), jR0, z.2) 0 0 0 0 162 [some (.ref 93), some (.int x1), some (.int x2), some (.int x3), some (.int x4), some (.int (x5 + (-2))), some (.int x6), some (.int x7), some (.int (w.1 94 (Int32.toNatClampNeg (((1680 + (800 * x1)) + 140) + (2 * x7))))), some (.int (w.1 94 (Int32.toNatClampNeg ((((1680 + (800 * x1)) + 140) + (2 * x7)) + 1))))] [] jR0 w42) h fun w42 h => ?_
            refine ev_seg (o := 10) (nL := 10) (q := 16) (xs := [(.iinc 6 1, 3, 6, 0, .int 1), (.goto 115, 3, 0, 0, .null), (.iinc 7 1, 3, 7, 0, .int 1), (.goto (-267), 3, 0, 0, .null)]) (L' := [some (.ref 93), some (.int x1), some (.int x2), some (.int x3), some (.int x4), some (.int (x5 + (-2))), some (.int (x6 + 1)), some (.int (x7 + 1)), some (.int (w.1 94 (Int32.toNatClampNeg (((1680 + (800 * x1)) + 140) + (2 * x7))))), some (.int (w.1 94 (Int32.toNatClampNeg ((((1680 + (800 * x1)) + 140) + (2 * x7)) + 1))))]) (st' := []) (w' := w42) (g := []) (K := []) (by decide +kernel) rfl rfl rfl rfl jk0 ?_
            refine ev_mask [true, true, true, true, true, true, true, true, false, false] ?_
            exact ih _ _ _ _ _ _ _ _ _ h
        · replace h := jpos c44 h
          refine ev_mask [true, true, true, true, true, true, true, true, true, true] ?_
          exact t_Model_isSo_j92 hG ih h
def f_Model_isSo (x1 : Int32) (x2 : Int32) (x3 : Int32) (x4 : Int32) (w : jW) : Option (Int32 × jW) :=
  if jal [jin (x2 + 4) 21000] = true then
  f_Model_isSo_h16 jfu x1 x2 x3 x4 0 0 (w.1 94 (Int32.toNatClampNeg (x2 + 4))) w
  else none
set_option maxRecDepth 20000 in
theorem e_Model_isSo {l : Launch} {G : jG} (hG : jX G) {x1 : Int32} {x2 : Int32} {x3 : Int32} {x4 : Int32} {w : jW} {z : (Int32 × jW)} (h : f_Model_isSo x1 x2 x3 x4 w = some z) : Ct l G y_Model_isSo d_Model_isSo 0 0 [.ref 93, .int x1, .int x2, .int x3, .int x4] jR0 w (some (.int z.1), jR0, z.2) := by
  rw [f_Model_isSo] at h
  refine Ct.of (L := [some (.ref 93), some (.int x1), some (.int x2), some (.int x3), some (.int x4), none, none, none, none, none]) (by decide) (Nat.le_of_ble_eq_true rfl) rfl ?_
  obtain ⟨hg1, h⟩ := jgd h
  refine ev_seg (o := 10) (nL := 10) (q := 16) (xs := [(.iconst 0, 1, 0, 0, .int 0), (.istore 5, 2, 5, 0, .null), (.iconst 0, 1, 0, 0, .int 0), (.istore 6, 2, 6, 0, .null), (.aload_n 0, 1, 0, 0, .null), (.getfield 7, 3, 10, 0, .ref 20), (.iload_n 2, 1, 2, 0, .null), (.iconst 4, 1, 0, 0, .int 4), (.iadd, 1, 0, 0, .null), (.iaload, 1, 0, 0, .null), (.istore 7, 2, 7, 0, .null)]) (L' := [some (.ref 93), some (.int x1), some (.int x2), some (.int x3), some (.int x4), some (.int 0), some (.int 0), some (.int (w.1 94 (Int32.toNatClampNeg (x2 + 4)))), none, none]) (st' := []) (w' := w) (g := [jin (x2 + 4) 21000]) (K := [(94, 20), (94, 20), (93, 10)]) (by decide +kernel) rfl rfl rfl hg1 (jk1 kz_94 (jk1 kz_94 (jk1 kz_93 jk0))) ?_
  refine ev_mask [true, true, true, true, true, true, true, true, false, false] ?_
  exact t_Model_isSo_h16 hG jfu _ _ _ _ _ _ _ _ _ h
def f_Model_isOne_h20 : Nat → Int32 → Int32 → Int32 → Int32 → Int32 → jW → Option (Int32 × jW)
  | 0, _, _, _, _, _, _ => none
  | n + 1, x1, x2, x3, x6, x7, w =>
  Option.bind (f_Model_clausesOf x6 w) fun q2 =>
  if x7 < q2.1 then
    Option.bind (f_Model_clauseAt x6 x7 q2.2) fun q3 =>
    if jal [jin q3.1 21000] = true then
    if (q3.2.1 94 (Int32.toNatClampNeg q3.1)) = x1 then
      Option.bind (f_Model_clauseAt x6 x7 q3.2) fun q5 =>
      Option.bind (f_Model_isSo x6 q5.1 x2 x3 q5.2) fun q6 =>
      if q6.1 = 0 then
        (f_Model_isOne_h20 n) x1 x2 x3 x6 (x7 + 1) q6.2
      else
        some (1, q6.2)
    else
      (f_Model_isOne_h20 n) x1 x2 x3 x6 (x7 + 1) q3.2
    else none
  else
    some (0, q2.2)
set_option maxRecDepth 20000 in
theorem t_Model_isOne_h20 {l : Launch} {G : jG} (hG : jX G) : ∀ (n : Nat) (x1 : Int32) (x2 : Int32) (x3 : Int32) (x6 : Int32) (x7 : Int32) (w : jW) (z : (Int32 × jW)), f_Model_isOne_h20 n x1 x2 x3 x6 x7 w = some z → Ev l G (jrm d_Model_isOne 0 0) y_Model_isOne (some (.int z.1), jR0, z.2) 0 0 0 0 20 [some (.ref 93), some (.int x1), some (.int x2), some (.int x3), none, none, some (.int x6), some (.int x7)] [] jR0 w := by
  intro n
  induction n with
  | zero => intro x1 x2 x3 x6 x7 w z h; simp only [f_Model_isOne_h20] at h; cases h
  | succ n ih =>
    intro x1 x2 x3 x6 x7 w z h
    rw [f_Model_isOne_h20] at h
    refine ev_seg (o := 10) (nL := 8) (q := 25) (xs := [(.iload 7, 2, 7, 0, .null), (.aload_n 0, 1, 0, 0, .null), (.iload 6, 2, 6, 0, .null)]) (L' := [some (.ref 93), some (.int x1), some (.int x2), some (.int x3), none, none, some (.int x6), some (.int x7)]) (st' := [.int x6, .ref 93, .int x7]) (w' := w) (g := []) (K := []) (by decide +kernel) rfl rfl rfl rfl jk0 ?_
    obtain ⟨q2, hq2, h⟩ := jbe h
    refine ev_callV (ci := 10) (a := 93) (y2 := y_Model_clausesOf) (o := 10) (idx := 229) (d2 := d_Model_clausesOf) (n := 1) (mc2 := 0) (ms2 := 0) (As := [.int x6]) (st := [.int x7]) (res2 := (some (.int q2.1), jR0, q2.2)) (by decide +kernel) rfl lk_10_229 mo_Model_clausesOf mv_Model_clausesOf ⟨Nat.le_of_ble_eq_true rfl, Nat.le_of_ble_eq_true rfl⟩ rfl rfl kz_93 (by decide) rfl (Nat.le_of_ble_eq_true rfl) ⟨Nat.le_refl _, Nat.le_refl _⟩ hG (e_Model_clausesOf hG hq2) ?_
    refine ev_icmp_ge (off := 47) (tgt := 75) (by decide +kernel) (by decide) (fun c9 => ?_) (fun c9 => ?_)
    · replace h := jneg c9 h
      refine ev_seg (o := 10) (nL := 8) (q := 76) (xs := [(.iconst 0, 1, 0, 0, .int 0)]) (L' := [some (.ref 93), some (.int x1), some (.int x2), some (.int x3), none, none, some (.int x6), some (.int x7)]) (st' := [.int 0]) (w' := q2.2) (g := []) (K := []) (by decide +kernel) rfl rfl rfl rfl jk0 ?_
      cases h
      exact ev_zret (by decide +kernel) rfl rfl rfl rfl rfl
    · replace h := jpos c9 h
      refine ev_seg (o := 10) (nL := 8) (q := 40) (xs := [(.aload_n 0, 1, 0, 0, .null), (.getfield 7, 3, 10, 0, .ref 20), (.aload_n 0, 1, 0, 0, .null), (.iload 6, 2, 6, 0, .null), (.iload 7, 2, 7, 0, .null)]) (L' := [some (.ref 93), some (.int x1), some (.int x2), some (.int x3), none, none, some (.int x6), some (.int x7)]) (st' := [.int x7, .int x6, .ref 93, .ref 94]) (w' := q2.2) (g := []) (K := [(94, 20), (93, 10)]) (by decide +kernel) rfl rfl rfl rfl (jk1 kz_94 (jk1 kz_93 jk0)) ?_
      obtain ⟨q3, hq3, h⟩ := jbe h
      refine ev_callV (ci := 10) (a := 93) (y2 := y_Model_clauseAt) (o := 10) (idx := 232) (d2 := d_Model_clauseAt) (n := 2) (mc2 := 0) (ms2 := 0) (As := [.int x6, .int x7]) (st := [.ref 94]) (res2 := (some (.int q3.1), jR0, q3.2)) (by decide +kernel) rfl lk_10_232 mo_Model_clauseAt mv_Model_clauseAt ⟨Nat.le_of_ble_eq_true rfl, Nat.le_of_ble_eq_true rfl⟩ rfl rfl kz_93 (by decide) rfl (Nat.le_of_ble_eq_true rfl) ⟨Nat.le_refl _, Nat.le_refl _⟩ hG (e_Model_clauseAt hG hq3) ?_
      obtain ⟨hg4, h⟩ := jgd h
      refine ev_seg (o := 10) (nL := 8) (q := 45) (xs := [(.iaload, 1, 0, 0, .null), (.iload_n 1, 1, 1, 0, .null)]) (L' := [some (.ref 93), some (.int x1), some (.int x2), some (.int x3), none, none, some (.int x6), some (.int x7)]) (st' := [.int x1, .int (q3.2.1 94 (Int32.toNatClampNeg q3.1))]) (w' := q3.2) (g := [jin q3.1 21000]) (K := [(94, 20)]) (by decide +kernel) rfl rfl rfl hg4 (jk1 kz_94 jk0) ?_
      refine ev_icmp_ne (off := 24) (tgt := 69) (by decide +kernel) (by decide) (fun c8 => ?_) (fun c8 => ?_)
      · replace h := jneg c8 h
        refine ev_seg (o := 10) (nL := 8) (q := 20) (xs := [(.iinc 7 1, 3, 7, 0, .int 1), (.goto (-52), 3, 0, 0, .null)]) (L' := [some (.ref 93), some (.int x1), some (.int x2), some (.int x3), none, none, some (.int x6), some (.int (x7 + 1))]) (st' := []) (w' := q3.2) (g := []) (K := []) (by decide +kernel) rfl rfl rfl rfl jk0 ?_
        refine ev_mask [true, true, true, true, false, false, true, true] ?_
        exact ih _ _ _ _ _ _ _ h
      · replace h := jpos c8 h
        refine ev_seg (o := 10) (nL := 8) (q := 56) (xs := [(.aload_n 0, 1, 0, 0, .null), (.iload 6, 2, 6, 0, .null), (.aload_n 0, 1, 0, 0, .null), (.iload 6, 2, 6, 0, .null), (.iload 7, 2, 7, 0, .null)]) (L' := [some (.ref 93), some (.int x1), some (.int x2), some (.int x3), none, none, some (.int x6), some (.int x7)]) (st' := [.int x7, .int x6, .ref 93, .int x6, .ref 93]) (w' := q3.2) (g := []) (K := []) (by decide +kernel) rfl rfl rfl rfl jk0 ?_
        obtain ⟨q5, hq5, h⟩ := jbe h
        refine ev_callV (ci := 10) (a := 93) (y2 := y_Model_clauseAt) (o := 10) (idx := 232) (d2 := d_Model_clauseAt) (n := 2) (mc2 := 0) (ms2 := 0) (As := [.int x6, .int x7]) (st := [.int x6, .ref 93]) (res2 := (some (.int q5.1), jR0, q5.2)) (by decide +kernel) rfl lk_10_232 mo_Model_clauseAt mv_Model_clauseAt ⟨Nat.le_of_ble_eq_true rfl, Nat.le_of_ble_eq_true rfl⟩ rfl rfl kz_93 (by decide) rfl (Nat.le_of_ble_eq_true rfl) ⟨Nat.le_refl _, Nat.le_refl _⟩ hG (e_Model_clauseAt hG hq5) ?_
        refine ev_seg (o := 10) (nL := 8) (q := 61) (xs := [(.iload_n 2, 1, 2, 0, .null), (.iload_n 3, 1, 3, 0, .null)]) (L' := [some (.ref 93), some (.int x1), some (.int x2), some (.int x3), none, none, some (.int x6), some (.int x7)]) (st' := [.int x3, .int x2, .int q5.1, .int x6, .ref 93]) (w' := q5.2) (g := []) (K := []) (by decide +kernel) rfl rfl rfl rfl jk0 ?_
        obtain ⟨q6, hq6, h⟩ := jbe h
        refine ev_callV (ci := 10) (a := 93) (y2 := y_Model_isSo) (o := 10) (idx := 254) (d2 := d_Model_isSo) (n := 4) (mc2 := 0) (ms2 := 0) (As := [.int x6, .int q5.1, .int x2, .int x3]) (st := []) (res2 := (some (.int q6.1), jR0, q6.2)) (by decide +kernel) rfl lk_10_254 mo_Model_isSo mv_Model_isSo ⟨Nat.le_of_ble_eq_true rfl, Nat.le_of_ble_eq_true rfl⟩ rfl rfl kz_93 (by decide) rfl (Nat.le_of_ble_eq_true rfl) ⟨Nat.le_refl _, Nat.le_refl _⟩ hG (e_Model_isSo hG hq6) ?_
        refine ev_if_eq (off := 5) (tgt := 69) (by decide +kernel) (by decide) (fun c7 => ?_) (fun c7 => ?_)
        · replace h := jpos c7 h
          refine ev_seg (o := 10) (nL := 8) (q := 20) (xs := [(.iinc 7 1, 3, 7, 0, .int 1), (.goto (-52), 3, 0, 0, .null)]) (L' := [some (.ref 93), some (.int x1), some (.int x2), some (.int x3), none, none, some (.int x6), some (.int (x7 + 1))]) (st' := []) (w' := q6.2) (g := []) (K := []) (by decide +kernel) rfl rfl rfl rfl jk0 ?_
          refine ev_mask [true, true, true, true, false, false, true, true] ?_
          exact ih _ _ _ _ _ _ _ h
        · replace h := jneg c7 h
          refine ev_seg (o := 10) (nL := 8) (q := 68) (xs := [(.iconst 1, 1, 0, 0, .int 1)]) (L' := [some (.ref 93), some (.int x1), some (.int x2), some (.int x3), none, none, some (.int x6), some (.int x7)]) (st' := [.int 1]) (w' := q6.2) (g := []) (K := []) (by decide +kernel) rfl rfl rfl rfl jk0 ?_
          cases h
          exact ev_zret (by decide +kernel) rfl rfl rfl rfl rfl
def f_Model_isOne (x1 : Int32) (x2 : Int32) (x3 : Int32) (x4 : Int32) (x5 : Int32) (w : jW) : Option (Int32 × jW) :=
  Option.bind (f_Model_textFor x1 x4 w) fun q1 =>
  if q1.1 < 0 then
    if jbo x5 = true then some (x5, q1.2) else none
  else
    f_Model_isOne_h20 jfu x1 x2 x3 q1.1 0 q1.2
set_option maxRecDepth 20000 in
theorem e_Model_isOne {l : Launch} {G : jG} (hG : jX G) {x1 : Int32} {x2 : Int32} {x3 : Int32} {x4 : Int32} {x5 : Int32} {w : jW} {z : (Int32 × jW)} (h : f_Model_isOne x1 x2 x3 x4 x5 w = some z) : Ct l G y_Model_isOne d_Model_isOne 0 0 [.ref 93, .int x1, .int x2, .int x3, .int x4, .int x5] jR0 w (some (.int z.1), jR0, z.2) := by
  rw [f_Model_isOne] at h
  refine Ct.of (L := [some (.ref 93), some (.int x1), some (.int x2), some (.int x3), some (.int x4), some (.int x5), none, none]) (by decide) (Nat.le_of_ble_eq_true rfl) rfl ?_
  refine ev_seg (o := 10) (nL := 8) (q := 4) (xs := [(.aload_n 0, 1, 0, 0, .null), (.iload_n 1, 1, 1, 0, .null), (.iload 4, 2, 4, 0, .null)]) (L' := [some (.ref 93), some (.int x1), some (.int x2), some (.int x3), some (.int x4), some (.int x5), none, none]) (st' := [.int x4, .int x1, .ref 93]) (w' := w) (g := []) (K := []) (by decide +kernel) rfl rfl rfl rfl jk0 ?_
  obtain ⟨q1, hq1, h⟩ := jbe h
  refine ev_callV (ci := 10) (a := 93) (y2 := y_Model_textFor) (o := 10) (idx := 238) (d2 := d_Model_textFor) (n := 2) (mc2 := 0) (ms2 := 0) (As := [.int x1, .int x4]) (st := []) (res2 := (some (.int q1.1), jR0, q1.2)) (by decide +kernel) rfl lk_10_238 mo_Model_textFor mv_Model_textFor ⟨Nat.le_of_ble_eq_true rfl, Nat.le_of_ble_eq_true rfl⟩ rfl rfl kz_93 (by decide) rfl (Nat.le_of_ble_eq_true rfl) ⟨Nat.le_refl _, Nat.le_refl _⟩ hG (e_Model_textFor hG hq1) ?_
  refine ev_seg (o := 10) (nL := 8) (q := 11) (xs := [(.istore 6, 2, 6, 0, .null), (.iload 6, 2, 6, 0, .null)]) (L' := [some (.ref 93), some (.int x1), some (.int x2), some (.int x3), some (.int x4), some (.int x5), some (.int q1.1), none]) (st' := [.int q1.1]) (w' := q1.2) (g := []) (K := []) (by decide +kernel) rfl rfl rfl rfl jk0 ?_
  refine ev_if_ge (off := 6) (tgt := 17) (by decide +kernel) (by decide) (fun c10 => ?_) (fun c10 => ?_)
  · replace h := jneg c10 h
    refine ev_seg (o := 10) (nL := 8) (q := 20) (xs := [(.iconst 0, 1, 0, 0, .int 0), (.istore 7, 2, 7, 0, .null)]) (L' := [some (.ref 93), some (.int x1), some (.int x2), some (.int x3), some (.int x4), some (.int x5), some (.int q1.1), some (.int 0)]) (st' := []) (w' := q1.2) (g := []) (K := []) (by decide +kernel) rfl rfl rfl rfl jk0 ?_
    refine ev_mask [true, true, true, true, false, false, true, true] ?_
    exact t_Model_isOne_h20 hG jfu _ _ _ _ _ _ _ h
  · replace h := jpos c10 h
    refine ev_seg (o := 10) (nL := 8) (q := 16) (xs := [(.iload 5, 2, 5, 0, .null)]) (L' := [some (.ref 93), some (.int x1), some (.int x2), some (.int x3), some (.int x4), some (.int x5), some (.int q1.1), none]) (st' := [.int x5]) (w' := q1.2) (g := []) (K := []) (by decide +kernel) rfl rfl rfl rfl jk0 ?_
    obtain ⟨hz, h⟩ := jgd h
    cases h
    exact ev_zret (by decide +kernel) rfl hz rfl rfl rfl
def f_Model_classOf (x1 : Int32) (w : jW) : Option (Int32 × jW) :=
  if x1 < 0 then
    some (4, w)
  else
    if x1 < 100 then
      Option.bind (f_Model_siteAt x1 1 w) fun q1 =>
      some (q1.1, q1.2)
    else
      some (4, w)
set_option maxRecDepth 20000 in
theorem e_Model_classOf {l : Launch} {G : jG} (hG : jX G) {x1 : Int32} {w : jW} {z : (Int32 × jW)} (h : f_Model_classOf x1 w = some z) : Ct l G y_Model_classOf d_Model_classOf 0 0 [.ref 93, .int x1] jR0 w (some (.int z.1), jR0, z.2) := by
  rw [f_Model_classOf] at h
  refine Ct.of (L := [some (.ref 93), some (.int x1)]) (by decide) (Nat.le_of_ble_eq_true rfl) rfl ?_
  refine ev_seg (o := 10) (nL := 2) (q := 1) (xs := [(.iload_n 1, 1, 1, 0, .null)]) (L' := [some (.ref 93), some (.int x1)]) (st' := [.int x1]) (w' := w) (g := []) (K := []) (by decide +kernel) rfl rfl rfl rfl jk0 ?_
  refine ev_if_lt (off := 9) (tgt := 10) (by decide +kernel) (by decide) (fun c3 => ?_) (fun c3 => ?_)
  · replace h := jpos c3 h
    refine ev_seg (o := 10) (nL := 2) (q := 20) (xs := [(.iconst 4, 1, 0, 0, .int 4), (.goto 9, 3, 0, 0, .null)]) (L' := [some (.ref 93), some (.int x1)]) (st' := [.int 4]) (w' := w) (g := []) (K := []) (by decide +kernel) rfl rfl rfl rfl jk0 ?_
    cases h
    exact ev_iret (by decide +kernel) rfl rfl rfl rfl
  · replace h := jneg c3 h
    refine ev_seg (o := 10) (nL := 2) (q := 7) (xs := [(.iload_n 1, 1, 1, 0, .null), (.bipush 100, 2, 0, 0, .int 100)]) (L' := [some (.ref 93), some (.int x1)]) (st' := [.int 100, .int x1]) (w' := w) (g := []) (K := []) (by decide +kernel) rfl rfl rfl rfl jk0 ?_
    refine ev_icmp_lt (off := 7) (tgt := 14) (by decide +kernel) (by decide) (fun c2 => ?_) (fun c2 => ?_)
    · replace h := jpos c2 h
      refine ev_seg (o := 10) (nL := 2) (q := 17) (xs := [(.aload_n 0, 1, 0, 0, .null), (.iload_n 1, 1, 1, 0, .null), (.iconst 1, 1, 0, 0, .int 1)]) (L' := [some (.ref 93), some (.int x1)]) (st' := [.int 1, .int x1, .ref 93]) (w' := w) (g := []) (K := []) (by decide +kernel) rfl rfl rfl rfl jk0 ?_
      obtain ⟨q1, hq1, h⟩ := jbe h
      refine ev_callV (ci := 10) (a := 93) (y2 := y_Model_siteAt) (o := 10) (idx := 54) (d2 := d_Model_siteAt) (n := 2) (mc2 := 0) (ms2 := 0) (As := [.int x1, .int 1]) (st := []) (res2 := (some (.int q1.1), jR0, q1.2)) (by decide +kernel) rfl lk_10_54 mo_Model_siteAt mv_Model_siteAt ⟨Nat.le_of_ble_eq_true rfl, Nat.le_of_ble_eq_true rfl⟩ rfl rfl kz_93 (by decide) rfl (Nat.le_of_ble_eq_true rfl) ⟨Nat.le_refl _, Nat.le_refl _⟩ hG (e_Model_siteAt hG hq1) ?_
      cases h
      exact ev_iret (by decide +kernel) rfl rfl rfl rfl
    · replace h := jneg c2 h
      refine ev_seg (o := 10) (nL := 2) (q := 20) (xs := [(.iconst 4, 1, 0, 0, .int 4), (.goto 9, 3, 0, 0, .null)]) (L' := [some (.ref 93), some (.int x1)]) (st' := [.int 4]) (w' := w) (g := []) (K := []) (by decide +kernel) rfl rfl rfl rfl jk0 ?_
      cases h
      exact ev_iret (by decide +kernel) rfl rfl rfl rfl
def f_Model_counts_j21 (x1 : Int32) (x2 : Int32) (x3 : Int32) (w : jW) : Option (Int32 × jW) :=
  Option.bind (f_Model_isDay x3 w) fun q2 =>
  if q2.1 = 0 then
    some ((-1), q2.2)
  else
    Option.bind (f_Model_classOf x2 q2.2) fun q3 =>
    Option.bind (f_Model_isOne 1 x1 q3.1 x3 1 q3.2) fun q4 =>
    if q4.1 = 0 then
      some (0, q4.2)
    else
      some (1, q4.2)
set_option maxRecDepth 20000 in
theorem t_Model_counts_j21 {l : Launch} {G : jG} (hG : jX G) {x1 : Int32} {x2 : Int32} {x3 : Int32} {w : jW} {z : (Int32 × jW)} (h : f_Model_counts_j21 x1 x2 x3 w = some z) : Ev l G (jrm d_Model_counts 0 0) y_Model_counts (some (.int z.1), jR0, z.2) 0 0 0 0 21 [some (.ref 93), some (.int x1), some (.int x2), some (.int x3)] [] jR0 w := by
  rw [f_Model_counts_j21] at h
  refine ev_seg (o := 10) (nL := 4) (q := 22) (xs := [(.iload_n 3, 1, 3, 0, .null)]) (L' := [some (.ref 93), some (.int x1), some (.int x2), some (.int x3)]) (st' := [.int x3]) (w' := w) (g := []) (K := []) (by decide +kernel) rfl rfl rfl rfl jk0 ?_
  obtain ⟨q2, hq2, h⟩ := jbe h
  refine ev_callS (y2 := y_Model_isDay) (o := 10) (idx := 75) (d2 := d_Model_isDay) (n := 1) (mc2 := 0) (ms2 := 0) (As := [.int x3]) (st := []) (res2 := (some (.int q2.1), jR0, q2.2)) (by decide +kernel) rfl lk_10_75 mo_Model_isDay ms_Model_isDay ⟨Nat.le_of_ble_eq_true rfl, Nat.le_of_ble_eq_true rfl⟩ rfl rfl (Nat.le_of_ble_eq_true rfl) ⟨Nat.le_refl _, Nat.le_refl _⟩ hG (e_Model_isDay hG hq2) ?_
  refine ev_if_ne (off := 5) (tgt := 30) (by decide +kernel) (by decide) (fun c6 => ?_) (fun c6 => ?_)
  · replace h := jneg c6 h
    refine ev_seg (o := 10) (nL := 4) (q := 35) (xs := [(.aload_n 0, 1, 0, 0, .null), (.iconst 1, 1, 0, 0, .int 1), (.iload_n 1, 1, 1, 0, .null), (.aload_n 0, 1, 0, 0, .null), (.iload_n 2, 1, 2, 0, .null)]) (L' := [some (.ref 93), some (.int x1), some (.int x2), some (.int x3)]) (st' := [.int x2, .ref 93, .int x1, .int 1, .ref 93]) (w' := q2.2) (g := []) (K := []) (by decide +kernel) rfl rfl rfl rfl jk0 ?_
    obtain ⟨q3, hq3, h⟩ := jbe h
    refine ev_callV (ci := 10) (a := 93) (y2 := y_Model_classOf) (o := 10) (idx := 258) (d2 := d_Model_classOf) (n := 1) (mc2 := 0) (ms2 := 0) (As := [.int x2]) (st := [.int x1, .int 1, .ref 93]) (res2 := (some (.int q3.1), jR0, q3.2)) (by decide +kernel) rfl lk_10_258 mo_Model_classOf mv_Model_classOf ⟨Nat.le_of_ble_eq_true rfl, Nat.le_of_ble_eq_true rfl⟩ rfl rfl kz_93 (by decide) rfl (Nat.le_of_ble_eq_true rfl) ⟨Nat.le_refl _, Nat.le_refl _⟩ hG (e_Model_classOf hG hq3) ?_
    refine ev_seg (o := 10) (nL := 4) (q := 40) (xs := [(.iload_n 3, 1, 3, 0, .null), (.iconst 1, 1, 0, 0, .int 1)]) (L' := [some (.ref 93), some (.int x1), some (.int x2), some (.int x3)]) (st' := [.int 1, .int x3, .int q3.1, .int x1, .int 1, .ref 93]) (w' := q3.2) (g := []) (K := []) (by decide +kernel) rfl rfl rfl rfl jk0 ?_
    obtain ⟨q4, hq4, h⟩ := jbe h
    refine ev_callV (ci := 10) (a := 93) (y2 := y_Model_isOne) (o := 10) (idx := 261) (d2 := d_Model_isOne) (n := 5) (mc2 := 0) (ms2 := 0) (As := [.int 1, .int x1, .int q3.1, .int x3, .int 1]) (st := []) (res2 := (some (.int q4.1), jR0, q4.2)) (by decide +kernel) rfl lk_10_261 mo_Model_isOne mv_Model_isOne ⟨Nat.le_of_ble_eq_true rfl, Nat.le_of_ble_eq_true rfl⟩ rfl rfl kz_93 (by decide) rfl (Nat.le_of_ble_eq_true rfl) ⟨Nat.le_refl _, Nat.le_refl _⟩ hG (e_Model_isOne hG hq4) ?_
    refine ev_if_eq (off := 7) (tgt := 50) (by decide +kernel) (by decide) (fun c5 => ?_) (fun c5 => ?_)
    · replace h := jpos c5 h
      refine ev_seg (o := 10) (nL := 4) (q := 51) (xs := [(.iconst 0, 1, 0, 0, .int 0)]) (L' := [some (.ref 93), some (.int x1), some (.int x2), some (.int x3)]) (st' := [.int 0]) (w' := q4.2) (g := []) (K := []) (by decide +kernel) rfl rfl rfl rfl jk0 ?_
      cases h
      exact ev_iret (by decide +kernel) rfl rfl rfl rfl
    · replace h := jneg c5 h
      refine ev_seg (o := 10) (nL := 4) (q := 51) (xs := [(.iconst 1, 1, 0, 0, .int 1), (.goto 4, 3, 0, 0, .null)]) (L' := [some (.ref 93), some (.int x1), some (.int x2), some (.int x3)]) (st' := [.int 1]) (w' := q4.2) (g := []) (K := []) (by decide +kernel) rfl rfl rfl rfl jk0 ?_
      cases h
      exact ev_iret (by decide +kernel) rfl rfl rfl rfl
  · replace h := jpos c6 h
    refine ev_seg (o := 10) (nL := 4) (q := 29) (xs := [(.iconst (-1), 1, 0, 0, .int (-1))]) (L' := [some (.ref 93), some (.int x1), some (.int x2), some (.int x3)]) (st' := [.int (-1)]) (w' := q2.2) (g := []) (K := []) (by decide +kernel) rfl rfl rfl rfl jk0 ?_
    cases h
    exact ev_iret (by decide +kernel) rfl rfl rfl rfl
def f_Model_counts (x1 : Int32) (x2 : Int32) (x3 : Int32) (w : jW) : Option (Int32 × jW) :=
  Option.bind (f_Model_isThing x1 w) fun q1 =>
  if q1.1 = 0 then
    some ((-1), q1.2)
  else
    if x2 = (-1) then
      f_Model_counts_j21 x1 x2 x3 q1.2
    else
      Option.bind (f_Model_isSite x2 q1.2) fun q7 =>
      if q7.1 = 0 then
        some ((-1), q7.2)
      else
        f_Model_counts_j21 x1 x2 x3 q7.2
set_option maxRecDepth 20000 in
theorem e_Model_counts {l : Launch} {G : jG} (hG : jX G) {x1 : Int32} {x2 : Int32} {x3 : Int32} {w : jW} {z : (Int32 × jW)} (h : f_Model_counts x1 x2 x3 w = some z) : Ct l G y_Model_counts d_Model_counts 0 0 [.ref 93, .int x1, .int x2, .int x3] jR0 w (some (.int z.1), jR0, z.2) := by
  rw [f_Model_counts] at h
  refine Ct.of (L := [some (.ref 93), some (.int x1), some (.int x2), some (.int x3)]) (by decide) (Nat.le_of_ble_eq_true rfl) rfl ?_
  refine ev_seg (o := 10) (nL := 4) (q := 2) (xs := [(.aload_n 0, 1, 0, 0, .null), (.iload_n 1, 1, 1, 0, .null)]) (L' := [some (.ref 93), some (.int x1), some (.int x2), some (.int x3)]) (st' := [.int x1, .ref 93]) (w' := w) (g := []) (K := []) (by decide +kernel) rfl rfl rfl rfl jk0 ?_
  obtain ⟨q1, hq1, h⟩ := jbe h
  refine ev_callV (ci := 10) (a := 93) (y2 := y_Model_isThing) (o := 10) (idx := 72) (d2 := d_Model_isThing) (n := 1) (mc2 := 0) (ms2 := 0) (As := [.int x1]) (st := []) (res2 := (some (.int q1.1), jR0, q1.2)) (by decide +kernel) rfl lk_10_72 mo_Model_isThing mv_Model_isThing ⟨Nat.le_of_ble_eq_true rfl, Nat.le_of_ble_eq_true rfl⟩ rfl rfl kz_93 (by decide) rfl (Nat.le_of_ble_eq_true rfl) ⟨Nat.le_refl _, Nat.le_refl _⟩ hG (e_Model_isThing hG hq1) ?_
  refine ev_if_eq (off := 23) (tgt := 28) (by decide +kernel) (by decide) (fun c10 => ?_) (fun c10 => ?_)
  · replace h := jpos c10 h
    refine ev_seg (o := 10) (nL := 4) (q := 29) (xs := [(.iconst (-1), 1, 0, 0, .int (-1))]) (L' := [some (.ref 93), some (.int x1), some (.int x2), some (.int x3)]) (st' := [.int (-1)]) (w' := q1.2) (g := []) (K := []) (by decide +kernel) rfl rfl rfl rfl jk0 ?_
    cases h
    exact ev_iret (by decide +kernel) rfl rfl rfl rfl
  · replace h := jneg c10 h
    refine ev_seg (o := 10) (nL := 4) (q := 10) (xs := [(.iload_n 2, 1, 2, 0, .null), (.iconst (-1), 1, 0, 0, .int (-1))]) (L' := [some (.ref 93), some (.int x1), some (.int x2), some (.int x3)]) (st' := [.int (-1), .int x2]) (w' := q1.2) (g := []) (K := []) (by decide +kernel) rfl rfl rfl rfl jk0 ?_
    refine ev_icmp_eq (off := 11) (tgt := 21) (by decide +kernel) (by decide) (fun c9 => ?_) (fun c9 => ?_)
    · replace h := jpos c9 h
      refine ev_mask [true, true, true, true] ?_
      exact t_Model_counts_j21 hG h
    · replace h := jneg c9 h
      refine ev_seg (o := 10) (nL := 4) (q := 15) (xs := [(.aload_n 0, 1, 0, 0, .null), (.iload_n 2, 1, 2, 0, .null)]) (L' := [some (.ref 93), some (.int x1), some (.int x2), some (.int x3)]) (st' := [.int x2, .ref 93]) (w' := q1.2) (g := []) (K := []) (by decide +kernel) rfl rfl rfl rfl jk0 ?_
      obtain ⟨q7, hq7, h⟩ := jbe h
      refine ev_callV (ci := 10) (a := 93) (y2 := y_Model_isSite) (o := 10) (idx := 50) (d2 := d_Model_isSite) (n := 1) (mc2 := 0) (ms2 := 0) (As := [.int x2]) (st := []) (res2 := (some (.int q7.1), jR0, q7.2)) (by decide +kernel) rfl lk_10_50 mo_Model_isSite mv_Model_isSite ⟨Nat.le_of_ble_eq_true rfl, Nat.le_of_ble_eq_true rfl⟩ rfl rfl kz_93 (by decide) rfl (Nat.le_of_ble_eq_true rfl) ⟨Nat.le_refl _, Nat.le_refl _⟩ hG (e_Model_isSite hG hq7) ?_
      refine ev_if_eq (off := 10) (tgt := 28) (by decide +kernel) (by decide) (fun c8 => ?_) (fun c8 => ?_)
      · replace h := jpos c8 h
        refine ev_seg (o := 10) (nL := 4) (q := 29) (xs := [(.iconst (-1), 1, 0, 0, .int (-1))]) (L' := [some (.ref 93), some (.int x1), some (.int x2), some (.int x3)]) (st' := [.int (-1)]) (w' := q7.2) (g := []) (K := []) (by decide +kernel) rfl rfl rfl rfl jk0 ?_
        cases h
        exact ev_iret (by decide +kernel) rfl rfl rfl rfl
      · replace h := jneg c8 h
        refine ev_mask [true, true, true, true] ?_
        exact t_Model_counts_j21 hG h
def f_Model_countedOf_h5 : Nat → Int32 → Int32 → Int32 → Int32 → jW → Option (Int32 × jW)
  | 0, _, _, _, _, _ => none
  | n + 1, x1, x2, x3, x4, w =>
  if jal [jin 3 21000] = true then
  if x4 < (w.1 94 (Int32.toNatClampNeg 3)) then
    Option.bind (f_Model_whereOf x4 x2 w) fun q2 =>
    Option.bind (f_Model_thingAt x4 3 q2.2) fun q3 =>
    if q3.1 = x1 then
      if q2.1 ≤ 100 then
        Option.bind (f_Model_classOf q2.1 q3.2) fun q4 =>
        Option.bind (f_Model_isOne 1 x4 q4.1 x2 1 q4.2) fun q5 =>
        if q5.1 = 0 then
          (f_Model_countedOf_h5 n) x1 x2 x3 (x4 + 1) q5.2
        else
          (f_Model_countedOf_h5 n) x1 x2 (x3 + 1) (x4 + 1) q5.2
      else
        (f_Model_countedOf_h5 n) x1 x2 x3 (x4 + 1) q3.2
    else
      (f_Model_countedOf_h5 n) x1 x2 x3 (x4 + 1) q3.2
  else
    some (x3, w)
  else none
set_option maxRecDepth 20000 in
theorem t_Model_countedOf_h5 {l : Launch} {G : jG} (hG : jX G) : ∀ (n : Nat) (x1 : Int32) (x2 : Int32) (x3 : Int32) (x4 : Int32) (w : jW) (z : (Int32 × jW)), f_Model_countedOf_h5 n x1 x2 x3 x4 w = some z → Ev l G (jrm d_Model_countedOf 0 0) y_Model_countedOf (some (.int z.1), jR0, z.2) 0 0 0 0 5 [some (.ref 93), some (.int x1), some (.int x2), some (.int x3), some (.int x4), none] [] jR0 w := by
  intro n
  induction n with
  | zero => intro x1 x2 x3 x4 w z h; simp only [f_Model_countedOf_h5] at h; cases h
  | succ n ih =>
    intro x1 x2 x3 x4 w z h
    rw [f_Model_countedOf_h5] at h
    obtain ⟨hg1, h⟩ := jgd h
    refine ev_seg (o := 10) (nL := 6) (q := 13) (xs := [(.iload 4, 2, 4, 0, .null), (.aload_n 0, 1, 0, 0, .null), (.getfield 7, 3, 10, 0, .ref 20), (.iconst 3, 1, 0, 0, .int 3), (.iaload, 1, 0, 0, .null)]) (L' := [some (.ref 93), some (.int x1), some (.int x2), some (.int x3), some (.int x4), none]) (st' := [.int (w.1 94 (Int32.toNatClampNeg 3)), .int x4]) (w' := w) (g := [jin 3 21000]) (K := [(94, 20), (94, 20), (93, 10)]) (by decide +kernel) rfl rfl rfl hg1 (jk1 kz_94 (jk1 kz_94 (jk1 kz_93 jk0))) ?_
    refine ev_icmp_ge (off := 57) (tgt := 70) (by decide +kernel) (by decide) (fun c9 => ?_) (fun c9 => ?_)
    · replace h := jneg c9 h
      refine ev_seg (o := 10) (nL := 6) (q := 71) (xs := [(.iload_n 3, 1, 3, 0, .null)]) (L' := [some (.ref 93), some (.int x1), some (.int x2), some (.int x3), some (.int x4), none]) (st' := [.int x3]) (w' := w) (g := []) (K := []) (by decide +kernel) rfl rfl rfl rfl jk0 ?_
      cases h
      exact ev_iret (by decide +kernel) rfl rfl rfl rfl
    · replace h := jpos c9 h
      refine ev_seg (o := 10) (nL := 6) (q := 20) (xs := [(.aload_n 0, 1, 0, 0, .null), (.iload 4, 2, 4, 0, .null), (.iload_n 2, 1, 2, 0, .null)]) (L' := [some (.ref 93), some (.int x1), some (.int x2), some (.int x3), some (.int x4), none]) (st' := [.int x2, .int x4, .ref 93]) (w' := w) (g := []) (K := []) (by decide +kernel) rfl rfl rfl rfl jk0 ?_
      obtain ⟨q2, hq2, h⟩ := jbe h
      refine ev_callV (ci := 10) (a := 93) (y2 := y_Model_whereOf) (o := 10) (idx := 78) (d2 := d_Model_whereOf) (n := 2) (mc2 := 0) (ms2 := 0) (As := [.int x4, .int x2]) (st := []) (res2 := (some (.int q2.1), jR0, q2.2)) (by decide +kernel) rfl lk_10_78 mo_Model_whereOf mv_Model_whereOf ⟨Nat.le_of_ble_eq_true rfl, Nat.le_of_ble_eq_true rfl⟩ rfl rfl kz_93 (by decide) rfl (Nat.le_of_ble_eq_true rfl) ⟨Nat.le_refl _, Nat.le_refl _⟩ hG (e_Model_whereOf hG hq2) ?_
      refine ev_seg (o := 10) (nL := 6) (q := 29) (xs := [(.istore 5, 2, 5, 0, .null), (.aload_n 0, 1, 0, 0, .null), (.iload 4, 2, 4, 0, .null), (.iconst 3, 1, 0, 0, .int 3)]) (L' := [some (.ref 93), some (.int x1), some (.int x2), some (.int x3), some (.int x4), some (.int q2.1)]) (st' := [.int 3, .int x4, .ref 93]) (w' := q2.2) (g := []) (K := []) (by decide +kernel) rfl rfl rfl rfl jk0 ?_
      obtain ⟨q3, hq3, h⟩ := jbe h
      refine ev_callV (ci := 10) (a := 93) (y2 := y_Model_thingAt) (o := 10) (idx := 66) (d2 := d_Model_thingAt) (n := 2) (mc2 := 0) (ms2 := 0) (As := [.int x4, .int 3]) (st := []) (res2 := (some (.int q3.1), jR0, q3.2)) (by decide +kernel) rfl lk_10_66 mo_Model_thingAt mv_Model_thingAt ⟨Nat.le_of_ble_eq_true rfl, Nat.le_of_ble_eq_true rfl⟩ rfl rfl kz_93 (by decide) rfl (Nat.le_of_ble_eq_true rfl) ⟨Nat.le_refl _, Nat.le_refl _⟩ hG (e_Model_thingAt hG hq3) ?_
      refine ev_seg (o := 10) (nL := 6) (q := 33) (xs := [(.iload_n 1, 1, 1, 0, .null)]) (L' := [some (.ref 93), some (.int x1), some (.int x2), some (.int x3), some (.int x4), some (.int q2.1)]) (st' := [.int x1, .int q3.1]) (w' := q3.2) (g := []) (K := []) (by decide +kernel) rfl rfl rfl rfl jk0 ?_
      refine ev_icmp_ne (off := 31) (tgt := 64) (by decide +kernel) (by decide) (fun c8 => ?_) (fun c8 => ?_)
      · replace h := jneg c8 h
        refine ev_seg (o := 10) (nL := 6) (q := 5) (xs := [(.iinc 4 1, 3, 4, 0, .int 1), (.goto (-62), 3, 0, 0, .null)]) (L' := [some (.ref 93), some (.int x1), some (.int x2), some (.int x3), some (.int (x4 + 1)), some (.int q2.1)]) (st' := []) (w' := q3.2) (g := []) (K := []) (by decide +kernel) rfl rfl rfl rfl jk0 ?_
        refine ev_mask [true, true, true, true, true, false] ?_
        exact ih _ _ _ _ _ _ h
      · replace h := jpos c8 h
        refine ev_seg (o := 10) (nL := 6) (q := 40) (xs := [(.iload 5, 2, 5, 0, .null), (.bipush 100, 2, 0, 0, .int 100)]) (L' := [some (.ref 93), some (.int x1), some (.int x2), some (.int x3), some (.int x4), some (.int q2.1)]) (st' := [.int 100, .int q2.1]) (w' := q3.2) (g := []) (K := []) (by decide +kernel) rfl rfl rfl rfl jk0 ?_
        refine ev_icmp_gt (off := 24) (tgt := 64) (by decide +kernel) (by decide) (fun c7 => ?_) (fun c7 => ?_)
        · replace h := jneg c7 h
          refine ev_seg (o := 10) (nL := 6) (q := 5) (xs := [(.iinc 4 1, 3, 4, 0, .int 1), (.goto (-62), 3, 0, 0, .null)]) (L' := [some (.ref 93), some (.int x1), some (.int x2), some (.int x3), some (.int (x4 + 1)), some (.int q2.1)]) (st' := []) (w' := q3.2) (g := []) (K := []) (by decide +kernel) rfl rfl rfl rfl jk0 ?_
          refine ev_mask [true, true, true, true, true, false] ?_
          exact ih _ _ _ _ _ _ h
        · replace h := jpos c7 h
          refine ev_seg (o := 10) (nL := 6) (q := 50) (xs := [(.aload_n 0, 1, 0, 0, .null), (.iconst 1, 1, 0, 0, .int 1), (.iload 4, 2, 4, 0, .null), (.aload_n 0, 1, 0, 0, .null), (.iload 5, 2, 5, 0, .null)]) (L' := [some (.ref 93), some (.int x1), some (.int x2), some (.int x3), some (.int x4), some (.int q2.1)]) (st' := [.int q2.1, .ref 93, .int x4, .int 1, .ref 93]) (w' := q3.2) (g := []) (K := []) (by decide +kernel) rfl rfl rfl rfl jk0 ?_
          obtain ⟨q4, hq4, h⟩ := jbe h
          refine ev_callV (ci := 10) (a := 93) (y2 := y_Model_classOf) (o := 10) (idx := 258) (d2 := d_Model_classOf) (n := 1) (mc2 := 0) (ms2 := 0) (As := [.int q2.1]) (st := [.int x4, .int 1, .ref 93]) (res2 := (some (.int q4.1), jR0, q4.2)) (by decide +kernel) rfl lk_10_258 mo_Model_classOf mv_Model_classOf ⟨Nat.le_of_ble_eq_true rfl, Nat.le_of_ble_eq_true rfl⟩ rfl rfl kz_93 (by decide) rfl (Nat.le_of_ble_eq_true rfl) ⟨Nat.le_refl _, Nat.le_refl _⟩ hG (e_Model_classOf hG hq4) ?_
          refine ev_seg (o := 10) (nL := 6) (q := 55) (xs := [(.iload_n 2, 1, 2, 0, .null), (.iconst 1, 1, 0, 0, .int 1)]) (L' := [some (.ref 93), some (.int x1), some (.int x2), some (.int x3), some (.int x4), some (.int q2.1)]) (st' := [.int 1, .int x2, .int q4.1, .int x4, .int 1, .ref 93]) (w' := q4.2) (g := []) (K := []) (by decide +kernel) rfl rfl rfl rfl jk0 ?_
          obtain ⟨q5, hq5, h⟩ := jbe h
          refine ev_callV (ci := 10) (a := 93) (y2 := y_Model_isOne) (o := 10) (idx := 261) (d2 := d_Model_isOne) (n := 5) (mc2 := 0) (ms2 := 0) (As := [.int 1, .int x4, .int q4.1, .int x2, .int 1]) (st := []) (res2 := (some (.int q5.1), jR0, q5.2)) (by decide +kernel) rfl lk_10_261 mo_Model_isOne mv_Model_isOne ⟨Nat.le_of_ble_eq_true rfl, Nat.le_of_ble_eq_true rfl⟩ rfl rfl kz_93 (by decide) rfl (Nat.le_of_ble_eq_true rfl) ⟨Nat.le_refl _, Nat.le_refl _⟩ hG (e_Model_isOne hG hq5) ?_
          refine ev_if_eq (off := 6) (tgt := 64) (by decide +kernel) (by decide) (fun c6 => ?_) (fun c6 => ?_)
          · replace h := jpos c6 h
            refine ev_seg (o := 10) (nL := 6) (q := 5) (xs := [(.iinc 4 1, 3, 4, 0, .int 1), (.goto (-62), 3, 0, 0, .null)]) (L' := [some (.ref 93), some (.int x1), some (.int x2), some (.int x3), some (.int (x4 + 1)), some (.int q2.1)]) (st' := []) (w' := q5.2) (g := []) (K := []) (by decide +kernel) rfl rfl rfl rfl jk0 ?_
            refine ev_mask [true, true, true, true, true, false] ?_
            exact ih _ _ _ _ _ _ h
          · replace h := jneg c6 h
            refine ev_seg (o := 10) (nL := 6) (q := 5) (xs := [(.iinc 3 1, 3, 3, 0, .int 1), (.iinc 4 1, 3, 4, 0, .int 1), (.goto (-62), 3, 0, 0, .null)]) (L' := [some (.ref 93), some (.int x1), some (.int x2), some (.int (x3 + 1)), some (.int (x4 + 1)), some (.int q2.1)]) (st' := []) (w' := q5.2) (g := []) (K := []) (by decide +kernel) rfl rfl rfl rfl jk0 ?_
            refine ev_mask [true, true, true, true, true, false] ?_
            exact ih _ _ _ _ _ _ h
def f_Model_countedOf (x1 : Int32) (x2 : Int32) (w : jW) : Option (Int32 × jW) :=
  f_Model_countedOf_h5 jfu x1 x2 0 0 w
set_option maxRecDepth 20000 in
theorem e_Model_countedOf {l : Launch} {G : jG} (hG : jX G) {x1 : Int32} {x2 : Int32} {w : jW} {z : (Int32 × jW)} (h : f_Model_countedOf x1 x2 w = some z) : Ct l G y_Model_countedOf d_Model_countedOf 0 0 [.ref 93, .int x1, .int x2] jR0 w (some (.int z.1), jR0, z.2) := by
  rw [f_Model_countedOf] at h
  refine Ct.of (L := [some (.ref 93), some (.int x1), some (.int x2), none, none, none]) (by decide) (Nat.le_of_ble_eq_true rfl) rfl ?_
  refine ev_seg (o := 10) (nL := 6) (q := 5) (xs := [(.iconst 0, 1, 0, 0, .int 0), (.istore_n 3, 1, 3, 0, .null), (.iconst 0, 1, 0, 0, .int 0), (.istore 4, 2, 4, 0, .null)]) (L' := [some (.ref 93), some (.int x1), some (.int x2), some (.int 0), some (.int 0), none]) (st' := []) (w' := w) (g := []) (K := []) (by decide +kernel) rfl rfl rfl rfl jk0 ?_
  refine ev_mask [true, true, true, true, true, false] ?_
  exact t_Model_countedOf_h5 hG jfu _ _ _ _ _ _ h
def f_Model_counted (x1 : Int32) (x2 : Int32) (w : jW) : Option (Int32 × jW) :=
  Option.bind (f_Model_isIn x1 0 1 w) fun q1 =>
  if q1.1 = 0 then
    some ((-1), q1.2)
  else
    Option.bind (f_Model_isDay x2 q1.2) fun q2 =>
    if q2.1 = 0 then
      some ((-1), q2.2)
    else
      Option.bind (f_Model_countedOf x1 x2 q2.2) fun q3 =>
      some (q3.1, q3.2)
set_option maxRecDepth 20000 in
theorem e_Model_counted {l : Launch} {G : jG} (hG : jX G) {x1 : Int32} {x2 : Int32} {w : jW} {z : (Int32 × jW)} (h : f_Model_counted x1 x2 w = some z) : Ct l G y_Model_counted d_Model_counted 0 0 [.ref 93, .int x1, .int x2] jR0 w (some (.int z.1), jR0, z.2) := by
  rw [f_Model_counted] at h
  refine Ct.of (L := [some (.ref 93), some (.int x1), some (.int x2)]) (by decide) (Nat.le_of_ble_eq_true rfl) rfl ?_
  refine ev_seg (o := 10) (nL := 3) (q := 3) (xs := [(.iload_n 1, 1, 1, 0, .null), (.iconst 0, 1, 0, 0, .int 0), (.iconst 1, 1, 0, 0, .int 1)]) (L' := [some (.ref 93), some (.int x1), some (.int x2)]) (st' := [.int 1, .int 0, .int x1]) (w' := w) (g := []) (K := []) (by decide +kernel) rfl rfl rfl rfl jk0 ?_
  obtain ⟨q1, hq1, h⟩ := jbe h
  refine ev_callS (y2 := y_Model_isIn) (o := 10) (idx := 46) (d2 := d_Model_isIn) (n := 3) (mc2 := 0) (ms2 := 0) (As := [.int x1, .int 0, .int 1]) (st := []) (res2 := (some (.int q1.1), jR0, q1.2)) (by decide +kernel) rfl lk_10_46 mo_Model_isIn ms_Model_isIn ⟨Nat.le_of_ble_eq_true rfl, Nat.le_of_ble_eq_true rfl⟩ rfl rfl (Nat.le_of_ble_eq_true rfl) ⟨Nat.le_refl _, Nat.le_refl _⟩ hG (e_Model_isIn hG hq1) ?_
  refine ev_if_eq (off := 19) (tgt := 25) (by decide +kernel) (by decide) (fun c5 => ?_) (fun c5 => ?_)
  · replace h := jpos c5 h
    refine ev_seg (o := 10) (nL := 3) (q := 26) (xs := [(.iconst (-1), 1, 0, 0, .int (-1))]) (L' := [some (.ref 93), some (.int x1), some (.int x2)]) (st' := [.int (-1)]) (w' := q1.2) (g := []) (K := []) (by decide +kernel) rfl rfl rfl rfl jk0 ?_
    cases h
    exact ev_iret (by decide +kernel) rfl rfl rfl rfl
  · replace h := jneg c5 h
    refine ev_seg (o := 10) (nL := 3) (q := 10) (xs := [(.iload_n 2, 1, 2, 0, .null)]) (L' := [some (.ref 93), some (.int x1), some (.int x2)]) (st' := [.int x2]) (w' := q1.2) (g := []) (K := []) (by decide +kernel) rfl rfl rfl rfl jk0 ?_
    obtain ⟨q2, hq2, h⟩ := jbe h
    refine ev_callS (y2 := y_Model_isDay) (o := 10) (idx := 75) (d2 := d_Model_isDay) (n := 1) (mc2 := 0) (ms2 := 0) (As := [.int x2]) (st := []) (res2 := (some (.int q2.1), jR0, q2.2)) (by decide +kernel) rfl lk_10_75 mo_Model_isDay ms_Model_isDay ⟨Nat.le_of_ble_eq_true rfl, Nat.le_of_ble_eq_true rfl⟩ rfl rfl (Nat.le_of_ble_eq_true rfl) ⟨Nat.le_refl _, Nat.le_refl _⟩ hG (e_Model_isDay hG hq2) ?_
    refine ev_if_eq (off := 12) (tgt := 25) (by decide +kernel) (by decide) (fun c4 => ?_) (fun c4 => ?_)
    · replace h := jpos c4 h
      refine ev_seg (o := 10) (nL := 3) (q := 26) (xs := [(.iconst (-1), 1, 0, 0, .int (-1))]) (L' := [some (.ref 93), some (.int x1), some (.int x2)]) (st' := [.int (-1)]) (w' := q2.2) (g := []) (K := []) (by decide +kernel) rfl rfl rfl rfl jk0 ?_
      cases h
      exact ev_iret (by decide +kernel) rfl rfl rfl rfl
    · replace h := jneg c4 h
      refine ev_seg (o := 10) (nL := 3) (q := 19) (xs := [(.aload_n 0, 1, 0, 0, .null), (.iload_n 1, 1, 1, 0, .null), (.iload_n 2, 1, 2, 0, .null)]) (L' := [some (.ref 93), some (.int x1), some (.int x2)]) (st' := [.int x2, .int x1, .ref 93]) (w' := q2.2) (g := []) (K := []) (by decide +kernel) rfl rfl rfl rfl jk0 ?_
      obtain ⟨q3, hq3, h⟩ := jbe h
      refine ev_callV (ci := 10) (a := 93) (y2 := y_Model_countedOf) (o := 10) (idx := 265) (d2 := d_Model_countedOf) (n := 2) (mc2 := 0) (ms2 := 0) (As := [.int x1, .int x2]) (st := []) (res2 := (some (.int q3.1), jR0, q3.2)) (by decide +kernel) rfl lk_10_265 mo_Model_countedOf mv_Model_countedOf ⟨Nat.le_of_ble_eq_true rfl, Nat.le_of_ble_eq_true rfl⟩ rfl rfl kz_93 (by decide) rfl (Nat.le_of_ble_eq_true rfl) ⟨Nat.le_refl _, Nat.le_refl _⟩ hG (e_Model_countedOf hG hq3) ?_
      refine ev_seg (o := 10) (nL := 3) (q := 26) (xs := [(.goto 4, 3, 0, 0, .null)]) (L' := [some (.ref 93), some (.int x1), some (.int x2)]) (st' := [.int q3.1]) (w' := q3.2) (g := []) (K := []) (by decide +kernel) rfl rfl rfl rfl jk0 ?_
      cases h
      exact ev_iret (by decide +kernel) rfl rfl rfl rfl
def f_Model_tell_j108 (x1 : Int32) (x3 : Int32) (x4 : Int32) (s0 : Int32) (s1 : Int32) (w : jW) : Option (Int32 × jW) :=
  if jal [jin s1 21000] = true then
  jlw ((jup w.1 94 (Int32.toNatClampNeg s1) s0), w.2) fun w8 =>
  if jal [jin (x4 + 2) 21000] = true then
  jlw ((jup w8.1 94 (Int32.toNatClampNeg (x4 + 2)) x3), w8.2) fun w10 =>
  if jal [jin (x4 + 3) 21000, jin 0 21000] = true then
  jlw ((jup w10.1 94 (Int32.toNatClampNeg (x4 + 3)) (w10.1 94 (Int32.toNatClampNeg 0))), w10.2) fun w12 =>
  Option.bind (f_Model_thingAt x1 3 w12) fun q13 =>
  if jal [jin 7 21000] = true then
  Option.bind (f_Model_noted 3 q13.1 (q13.2.1 94 (Int32.toNatClampNeg 7)) 0 q13.2) fun q15 =>
  if jal [jin 7 21000, jin 7 21000] = true then
  jlw ((jup q15.1 94 (Int32.toNatClampNeg 7) ((q15.1 94 (Int32.toNatClampNeg 7)) + 1)), q15.2) fun w17 =>
  if jal [jin 7 21000] = true then
  some (((w17.1 94 (Int32.toNatClampNeg 7)) - 1), w17)
  else none else none
  else none
  else none else none else none
set_option maxRecDepth 20000 in
theorem t_Model_tell_j108 {l : Launch} {G : jG} (hG : jX G) {x1 : Int32} {x3 : Int32} {x4 : Int32} {s0 : Int32} {s1 : Int32} {w : jW} {z : (Int32 × jW)} (h : f_Model_tell_j108 x1 x3 x4 s0 s1 w = some z) : Ev l G (jrm d_Model_tell 0 0) y_Model_tell (some (.int z.1), jR0, z.2) 0 0 0 0 108 [some (.ref 93), some (.int x1), none, some (.int x3), some (.int x4)] [.int s0, .int s1, .ref 94] jR0 w := by
  rw [f_Model_tell_j108] at h
  obtain ⟨hg7, h⟩ := jgd h
  refine ev_seg (o := 10) (nL := 5) (q := 109) (xs := [(.iastore, 1, 0, 0, .null)]) (L' := [some (.ref 93), some (.int x1), none, some (.int x3), some (.int x4)]) (st' := []) (w' := ((jup w.1 94 (Int32.toNatClampNeg s1) s0), w.2)) (g := [jin s1 21000]) (K := [(94, 20)]) (by decide +kernel) rfl rfl rfl hg7 (jk1 kz_94 jk0) ?_
  refine jlw_c (P := fun w8 => Ev l G (jrm d_Model_tell 0 0) y_Model_tell (some (.int z.1), jR0, z.2) 0 0 0 0 109 [some (.ref 93), some (.int x1), none, some (.int x3), some (.int x4)] [] jR0 w8) h fun w8 h => ?_
  obtain ⟨hg9, h⟩ := jgd h
  refine ev_seg (o := 10) (nL := 5) (q := 119) (xs := [(.aload_n 0, 1, 0, 0, .null), (.getfield 7, 3, 10, 0, .ref 20), (.iload 4, 2, 4, 0, .null), (.iconst 2, 1, 0, 0, .int 2), (.iadd, 1, 0, 0, .null), (.iload_n 3, 1, 3, 0, .null), (.iastore, 1, 0, 0, .null)]) (L' := [some (.ref 93), some (.int x1), none, some (.int x3), some (.int x4)]) (st' := []) (w' := ((jup w8.1 94 (Int32.toNatClampNeg (x4 + 2)) x3), w8.2)) (g := [jin (x4 + 2) 21000]) (K := [(94, 20), (94, 20), (93, 10)]) (by decide +kernel) rfl rfl rfl hg9 (jk1 kz_94 (jk1 kz_94 (jk1 kz_93 jk0))) ?_
  refine jlw_c (P := fun w10 => Ev l G (jrm d_Model_tell 0 0) y_Model_tell (some (.int z.1), jR0, z.2) 0 0 0 0 119 [some (.ref 93), some (.int x1), none, some (.int x3), some (.int x4)] [] jR0 w10) h fun w10 h => ?_
  obtain ⟨hg11, h⟩ := jgd h
  refine ev_seg (o := 10) (nL := 5) (q := 134) (xs := [(.aload_n 0, 1, 0, 0, .null), (.getfield 7, 3, 10, 0, .ref 20), (.iload 4, 2, 4, 0, .null), (.iconst 3, 1, 0, 0, .int 3), (.iadd, 1, 0, 0, .null), (.aload_n 0, 1, 0, 0, .null), (.getfield 7, 3, 10, 0, .ref 20), (.iconst 0, 1, 0, 0, .int 0), (.iaload, 1, 0, 0, .null), (.iastore, 1, 0, 0, .null)]) (L' := [some (.ref 93), some (.int x1), none, some (.int x3), some (.int x4)]) (st' := []) (w' := ((jup w10.1 94 (Int32.toNatClampNeg (x4 + 3)) (w10.1 94 (Int32.toNatClampNeg 0))), w10.2)) (g := [jin (x4 + 3) 21000, jin 0 21000]) (K := [(94, 20), (94, 20), (94, 20), (93, 10), (94, 20), (93, 10)]) (by decide +kernel) rfl rfl rfl hg11 (jk1 kz_94 (jk1 kz_94 (jk1 kz_94 (jk1 kz_93 (jk1 kz_94 (jk1 kz_93 jk0)))))) ?_
  refine jlw_c (P := fun w12 => Ev l G (jrm d_Model_tell 0 0) y_Model_tell (some (.int z.1), jR0, z.2) 0 0 0 0 134 [some (.ref 93), some (.int x1), none, some (.int x3), some (.int x4)] [] jR0 w12) h fun w12 h => ?_
  refine ev_seg (o := 10) (nL := 5) (q := 139) (xs := [(.aload_n 0, 1, 0, 0, .null), (.iconst 3, 1, 0, 0, .int 3), (.aload_n 0, 1, 0, 0, .null), (.iload_n 1, 1, 1, 0, .null), (.iconst 3, 1, 0, 0, .int 3)]) (L' := [some (.ref 93), some (.int x1), none, some (.int x3), some (.int x4)]) (st' := [.int 3, .int x1, .ref 93, .int 3, .ref 93]) (w' := w12) (g := []) (K := []) (by decide +kernel) rfl rfl rfl rfl jk0 ?_
  obtain ⟨q13, hq13, h⟩ := jbe h
  refine ev_callV (ci := 10) (a := 93) (y2 := y_Model_thingAt) (o := 10) (idx := 66) (d2 := d_Model_thingAt) (n := 2) (mc2 := 0) (ms2 := 0) (As := [.int x1, .int 3]) (st := [.int 3, .ref 93]) (res2 := (some (.int q13.1), jR0, q13.2)) (by decide +kernel) rfl lk_10_66 mo_Model_thingAt mv_Model_thingAt ⟨Nat.le_of_ble_eq_true rfl, Nat.le_of_ble_eq_true rfl⟩ rfl rfl kz_93 (by decide) rfl (Nat.le_of_ble_eq_true rfl) ⟨Nat.le_refl _, Nat.le_refl _⟩ hG (e_Model_thingAt hG hq13) ?_
  obtain ⟨hg14, h⟩ := jgd h
  refine ev_seg (o := 10) (nL := 5) (q := 150) (xs := [(.aload_n 0, 1, 0, 0, .null), (.getfield 7, 3, 10, 0, .ref 20), (.bipush 7, 2, 0, 0, .int 7), (.iaload, 1, 0, 0, .null), (.iconst 0, 1, 0, 0, .int 0)]) (L' := [some (.ref 93), some (.int x1), none, some (.int x3), some (.int x4)]) (st' := [.int 0, .int (q13.2.1 94 (Int32.toNatClampNeg 7)), .int q13.1, .int 3, .ref 93]) (w' := q13.2) (g := [jin 7 21000]) (K := [(94, 20), (94, 20), (93, 10)]) (by decide +kernel) rfl rfl rfl hg14 (jk1 kz_94 (jk1 kz_94 (jk1 kz_93 jk0))) ?_
  obtain ⟨q15, hq15, h⟩ := jbe h
  refine ev_callV (ci := 10) (a := 93) (y2 := y_Model_noted) (o := 10) (idx := 62) (d2 := d_Model_noted) (n := 4) (mc2 := 0) (ms2 := 0) (As := [.int 3, .int q13.1, .int (q13.2.1 94 (Int32.toNatClampNeg 7)), .int 0]) (st := []) (res2 := (none, jR0, q15)) (by decide +kernel) rfl lk_10_62 mo_Model_noted mv_Model_noted ⟨Nat.le_of_ble_eq_true rfl, Nat.le_of_ble_eq_true rfl⟩ rfl rfl kz_93 (by decide) rfl (Nat.le_of_ble_eq_true rfl) ⟨Nat.le_refl _, Nat.le_refl _⟩ hG (e_Model_noted hG hq15) ?_
  obtain ⟨hg16, h⟩ := jgd h
  refine ev_seg (o := 10) (nL := 5) (q := 164) (xs := [(.aload_n 0, 1, 0, 0, .null), (.getfield 7, 3, 10, 0, .ref 20), (.bipush 7, 2, 0, 0, .int 7), (.dup2, 1, 0, 0, .null), (.iaload, 1, 0, 0, .null), (.iconst 1, 1, 0, 0, .int 1), (.iadd, 1, 0, 0, .null), (.iastore, 1, 0, 0, .null)]) (L' := [some (.ref 93), some (.int x1), none, some (.int x3), some (.int x4)]) (st' := []) (w' := ((jup q15.1 94 (Int32.toNatClampNeg 7) ((q15.1 94 (Int32.toNatClampNeg 7)) + 1)), q15.2)) (g := [jin 7 21000, jin 7 21000]) (K := [(94, 20), (94, 20), (94, 20), (93, 10)]) (by decide +kernel) rfl rfl rfl hg16 (jk1 kz_94 (jk1 kz_94 (jk1 kz_94 (jk1 kz_93 jk0)))) ?_
  refine jlw_c (P := fun w17 => Ev l G (jrm d_Model_tell 0 0) y_Model_tell (some (.int z.1), jR0, z.2) 0 0 0 0 164 [some (.ref 93), some (.int x1), none, some (.int x3), some (.int x4)] [] jR0 w17) h fun w17 h => ?_
  obtain ⟨hg18, h⟩ := jgd h
  refine ev_seg (o := 10) (nL := 5) (q := 173) (xs := [(.aload_n 0, 1, 0, 0, .null), (.getfield 7, 3, 10, 0, .ref 20), (.bipush 7, 2, 0, 0, .int 7), (.iaload, 1, 0, 0, .null), (.iconst 1, 1, 0, 0, .int 1), (.isub, 1, 0, 0, .null)]) (L' := [some (.ref 93), some (.int x1), none, some (.int x3), some (.int x4)]) (st' := [.int ((w17.1 94 (Int32.toNatClampNeg 7)) - 1)]) (w' := w17) (g := [jin 7 21000]) (K := [(94, 20), (94, 20), (93, 10)]) (by decide +kernel) rfl rfl rfl hg18 (jk1 kz_94 (jk1 kz_94 (jk1 kz_93 jk0))) ?_
  cases h
  exact ev_iret (by decide +kernel) rfl rfl rfl rfl
def f_Model_tell_j36 (x1 : Int32) (x2 : Int32) (x3 : Int32) (w : jW) : Option (Int32 × jW) :=
  if jal [jin 0 21000] = true then
  Option.bind (f_Model_isIn x3 0 (w.1 94 (Int32.toNatClampNeg 0)) w) fun q3 =>
  if q3.1 = 0 then
    some ((-1), q3.2)
  else
    if jal [jin 7 21000] = true then
    if (q3.2.1 94 (Int32.toNatClampNeg 7)) = 200 then
      some ((-1), q3.2)
    else
      if jal [jin (9680 + (8 * (q3.2.1 94 (Int32.toNatClampNeg 7)))) 21000, jin 7 21000] = true then
      jlw ((jup q3.2.1 94 (Int32.toNatClampNeg (9680 + (8 * (q3.2.1 94 (Int32.toNatClampNeg 7))))) x1), q3.2.2) fun w6 =>
      if x2 = (-1) then
        f_Model_tell_j108 x1 x3 (9680 + (8 * (q3.2.1 94 (Int32.toNatClampNeg 7)))) 101 ((9680 + (8 * (q3.2.1 94 (Int32.toNatClampNeg 7)))) + 1) w6
      else
        f_Model_tell_j108 x1 x3 (9680 + (8 * (q3.2.1 94 (Int32.toNatClampNeg 7)))) x2 ((9680 + (8 * (q3.2.1 94 (Int32.toNatClampNeg 7)))) + 1) w6
      else none
    else none
  else none
set_option maxRecDepth 20000 in
theorem t_Model_tell_j36 {l : Launch} {G : jG} (hG : jX G) {x1 : Int32} {x2 : Int32} {x3 : Int32} {w : jW} {z : (Int32 × jW)} (h : f_Model_tell_j36 x1 x2 x3 w = some z) : Ev l G (jrm d_Model_tell 0 0) y_Model_tell (some (.int z.1), jR0, z.2) 0 0 0 0 36 [some (.ref 93), some (.int x1), some (.int x2), some (.int x3), none] [] jR0 w := by
  rw [f_Model_tell_j36] at h
  obtain ⟨hg2, h⟩ := jgd h
  refine ev_seg (o := 10) (nL := 5) (q := 44) (xs := [(.iload_n 3, 1, 3, 0, .null), (.iconst 0, 1, 0, 0, .int 0), (.aload_n 0, 1, 0, 0, .null), (.getfield 7, 3, 10, 0, .ref 20), (.iconst 0, 1, 0, 0, .int 0), (.iaload, 1, 0, 0, .null)]) (L' := [some (.ref 93), some (.int x1), some (.int x2), some (.int x3), none]) (st' := [.int (w.1 94 (Int32.toNatClampNeg 0)), .int 0, .int x3]) (w' := w) (g := [jin 0 21000]) (K := [(94, 20), (94, 20), (93, 10)]) (by decide +kernel) rfl rfl rfl hg2 (jk1 kz_94 (jk1 kz_94 (jk1 kz_93 jk0))) ?_
  obtain ⟨q3, hq3, h⟩ := jbe h
  refine ev_callS (y2 := y_Model_isIn) (o := 10) (idx := 46) (d2 := d_Model_isIn) (n := 3) (mc2 := 0) (ms2 := 0) (As := [.int x3, .int 0, .int (w.1 94 (Int32.toNatClampNeg 0))]) (st := []) (res2 := (some (.int q3.1), jR0, q3.2)) (by decide +kernel) rfl lk_10_46 mo_Model_isIn ms_Model_isIn ⟨Nat.le_of_ble_eq_true rfl, Nat.le_of_ble_eq_true rfl⟩ rfl rfl (Nat.le_of_ble_eq_true rfl) ⟨Nat.le_refl _, Nat.le_refl _⟩ hG (e_Model_isIn hG hq3) ?_
  refine ev_if_eq (off := 16) (tgt := 63) (by decide +kernel) (by decide) (fun c21 => ?_) (fun c21 => ?_)
  · replace h := jpos c21 h
    refine ev_seg (o := 10) (nL := 5) (q := 64) (xs := [(.iconst (-1), 1, 0, 0, .int (-1))]) (L' := [some (.ref 93), some (.int x1), some (.int x2), some (.int x3), none]) (st' := [.int (-1)]) (w' := q3.2) (g := []) (K := []) (by decide +kernel) rfl rfl rfl rfl jk0 ?_
    cases h
    exact ev_iret (by decide +kernel) rfl rfl rfl rfl
  · replace h := jneg c21 h
    obtain ⟨hg4, h⟩ := jgd h
    refine ev_seg (o := 10) (nL := 5) (q := 60) (xs := [(.aload_n 0, 1, 0, 0, .null), (.getfield 7, 3, 10, 0, .ref 20), (.bipush 7, 2, 0, 0, .int 7), (.iaload, 1, 0, 0, .null), (.sipush 200, 3, 0, 0, .int 200)]) (L' := [some (.ref 93), some (.int x1), some (.int x2), some (.int x3), none]) (st' := [.int 200, .int (q3.2.1 94 (Int32.toNatClampNeg 7))]) (w' := q3.2) (g := [jin 7 21000]) (K := [(94, 20), (94, 20), (93, 10)]) (by decide +kernel) rfl rfl rfl hg4 (jk1 kz_94 (jk1 kz_94 (jk1 kz_93 jk0))) ?_
    refine ev_icmp_ne (off := 5) (tgt := 65) (by decide +kernel) (by decide) (fun c20 => ?_) (fun c20 => ?_)
    · replace h := jneg c20 h
      obtain ⟨hg5, h⟩ := jgd h
      refine ev_seg (o := 10) (nL := 5) (q := 89) (xs := [(.sipush 9680, 3, 0, 0, .int 9680), (.bipush 8, 2, 0, 0, .int 8), (.aload_n 0, 1, 0, 0, .null), (.getfield 7, 3, 10, 0, .ref 20), (.bipush 7, 2, 0, 0, .int 7), (.iaload, 1, 0, 0, .null), (.imul, 1, 0, 0, .null), (.iadd, 1, 0, 0, .null), (.istore 4, 2, 4, 0, .null), (.aload_n 0, 1, 0, 0, .null), (.getfield 7, 3, 10, 0, .ref 20), (.iload 4, 2, 4, 0, .null), (.iload_n 1, 1, 1, 0, .null), (.iastore, 1, 0, 0, .null)]) (L' := [some (.ref 93), some (.int x1), some (.int x2), some (.int x3), some (.int (9680 + (8 * (q3.2.1 94 (Int32.toNatClampNeg 7)))))]) (st' := []) (w' := ((jup q3.2.1 94 (Int32.toNatClampNeg (9680 + (8 * (q3.2.1 94 (Int32.toNatClampNeg 7))))) x1), q3.2.2)) (g := [jin (9680 + (8 * (q3.2.1 94 (Int32.toNatClampNeg 7)))) 21000, jin 7 21000]) (K := [(94, 20), (94, 20), (93, 10), (94, 20), (94, 20), (93, 10)]) (by decide +kernel) rfl rfl rfl hg5 (jk1 kz_94 (jk1 kz_94 (jk1 kz_93 (jk1 kz_94 (jk1 kz_94 (jk1 kz_93 jk0)))))) ?_
      refine jlw_c (P := fun w6 => Ev l G (jrm d_Model_tell 0 0) y_Model_tell (some (.int z.1), jR0, z.2) 0 0 0 0 89 [some (.ref 93), some (.int x1), some (.int x2), some (.int x3), some (.int (9680 + (8 * (q3.2.1 94 (Int32.toNatClampNeg 7)))))] [] jR0 w6) h fun w6 h => ?_
      refine ev_seg (o := 10) (nL := 5) (q := 99) (xs := [(.aload_n 0, 1, 0, 0, .null), (.getfield 7, 3, 10, 0, .ref 20), (.iload 4, 2, 4, 0, .null), (.iconst 1, 1, 0, 0, .int 1), (.iadd, 1, 0, 0, .null), (.iload_n 2, 1, 2, 0, .null), (.iconst (-1), 1, 0, 0, .int (-1))]) (L' := [some (.ref 93), some (.int x1), some (.int x2), some (.int x3), some (.int (9680 + (8 * (q3.2.1 94 (Int32.toNatClampNeg 7)))))]) (st' := [.int (-1), .int x2, .int ((9680 + (8 * (q3.2.1 94 (Int32.toNatClampNeg 7)))) + 1), .ref 94]) (w' := w6) (g := []) (K := [(94, 20), (93, 10)]) (by decide +kernel) rfl rfl rfl rfl (jk1 kz_94 (jk1 kz_93 jk0)) ?_
      refine ev_icmp_ne (off := 8) (tgt := 107) (by decide +kernel) (by decide) (fun c19 => ?_) (fun c19 => ?_)
      · replace h := jneg c19 h
        refine ev_seg (o := 10) (nL := 5) (q := 108) (xs := [(.iload_n 2, 1, 2, 0, .null)]) (L' := [some (.ref 93), some (.int x1), some (.int x2), some (.int x3), some (.int (9680 + (8 * (q3.2.1 94 (Int32.toNatClampNeg 7)))))]) (st' := [.int x2, .int ((9680 + (8 * (q3.2.1 94 (Int32.toNatClampNeg 7)))) + 1), .ref 94]) (w' := w6) (g := []) (K := []) (by decide +kernel) rfl rfl rfl rfl jk0 ?_
        refine ev_mask [true, true, false, true, true] ?_
        exact t_Model_tell_j108 hG h
      · replace h := jpos c19 h
        refine ev_seg (o := 10) (nL := 5) (q := 108) (xs := [(.bipush 101, 2, 0, 0, .int 101), (.goto 4, 3, 0, 0, .null)]) (L' := [some (.ref 93), some (.int x1), some (.int x2), some (.int x3), some (.int (9680 + (8 * (q3.2.1 94 (Int32.toNatClampNeg 7)))))]) (st' := [.int 101, .int ((9680 + (8 * (q3.2.1 94 (Int32.toNatClampNeg 7)))) + 1), .ref 94]) (w' := w6) (g := []) (K := []) (by decide +kernel) rfl rfl rfl rfl jk0 ?_
        refine ev_mask [true, true, false, true, true] ?_
        exact t_Model_tell_j108 hG h
    · replace h := jpos c20 h
      refine ev_seg (o := 10) (nL := 5) (q := 64) (xs := [(.iconst (-1), 1, 0, 0, .int (-1))]) (L' := [some (.ref 93), some (.int x1), some (.int x2), some (.int x3), none]) (st' := [.int (-1)]) (w' := q3.2) (g := []) (K := []) (by decide +kernel) rfl rfl rfl rfl jk0 ?_
      cases h
      exact ev_iret (by decide +kernel) rfl rfl rfl rfl
def f_Model_tell (x1 : Int32) (x2 : Int32) (x3 : Int32) (w : jW) : Option (Int32 × jW) :=
  Option.bind (f_Model_isThing x1 w) fun q1 =>
  if q1.1 = 0 then
    some ((-1), q1.2)
  else
    if x2 = (-1) then
      f_Model_tell_j36 x1 x2 x3 q1.2
    else
      Option.bind (f_Model_isSite x2 q1.2) fun q22 =>
      if q22.1 = 0 then
        some ((-1), q22.2)
      else
        Option.bind (f_Model_siteAt x2 0 q22.2) fun q23 =>
        Option.bind (f_Model_thingAt x1 3 q23.2) fun q24 =>
        if q23.1 = q24.1 then
          f_Model_tell_j36 x1 x2 x3 q24.2
        else
          some ((-1), q24.2)
set_option maxRecDepth 20000 in
theorem e_Model_tell {l : Launch} {G : jG} (hG : jX G) {x1 : Int32} {x2 : Int32} {x3 : Int32} {w : jW} {z : (Int32 × jW)} (h : f_Model_tell x1 x2 x3 w = some z) : Ct l G y_Model_tell d_Model_tell 0 0 [.ref 93, .int x1, .int x2, .int x3] jR0 w (some (.int z.1), jR0, z.2) := by
  rw [f_Model_tell] at h
  refine Ct.of (L := [some (.ref 93), some (.int x1), some (.int x2), some (.int x3), none]) (by decide) (Nat.le_of_ble_eq_true rfl) rfl ?_
  refine ev_seg (o := 10) (nL := 5) (q := 2) (xs := [(.aload_n 0, 1, 0, 0, .null), (.iload_n 1, 1, 1, 0, .null)]) (L' := [some (.ref 93), some (.int x1), some (.int x2), some (.int x3), none]) (st' := [.int x1, .ref 93]) (w' := w) (g := []) (K := []) (by decide +kernel) rfl rfl rfl rfl jk0 ?_
  obtain ⟨q1, hq1, h⟩ := jbe h
  refine ev_callV (ci := 10) (a := 93) (y2 := y_Model_isThing) (o := 10) (idx := 72) (d2 := d_Model_isThing) (n := 1) (mc2 := 0) (ms2 := 0) (As := [.int x1]) (st := []) (res2 := (some (.int q1.1), jR0, q1.2)) (by decide +kernel) rfl lk_10_72 mo_Model_isThing mv_Model_isThing ⟨Nat.le_of_ble_eq_true rfl, Nat.le_of_ble_eq_true rfl⟩ rfl rfl kz_93 (by decide) rfl (Nat.le_of_ble_eq_true rfl) ⟨Nat.le_refl _, Nat.le_refl _⟩ hG (e_Model_isThing hG hq1) ?_
  refine ev_if_eq (off := 58) (tgt := 63) (by decide +kernel) (by decide) (fun c28 => ?_) (fun c28 => ?_)
  · replace h := jpos c28 h
    refine ev_seg (o := 10) (nL := 5) (q := 64) (xs := [(.iconst (-1), 1, 0, 0, .int (-1))]) (L' := [some (.ref 93), some (.int x1), some (.int x2), some (.int x3), none]) (st' := [.int (-1)]) (w' := q1.2) (g := []) (K := []) (by decide +kernel) rfl rfl rfl rfl jk0 ?_
    cases h
    exact ev_iret (by decide +kernel) rfl rfl rfl rfl
  · replace h := jneg c28 h
    refine ev_seg (o := 10) (nL := 5) (q := 10) (xs := [(.iload_n 2, 1, 2, 0, .null), (.iconst (-1), 1, 0, 0, .int (-1))]) (L' := [some (.ref 93), some (.int x1), some (.int x2), some (.int x3), none]) (st' := [.int (-1), .int x2]) (w' := q1.2) (g := []) (K := []) (by decide +kernel) rfl rfl rfl rfl jk0 ?_
    refine ev_icmp_eq (off := 26) (tgt := 36) (by decide +kernel) (by decide) (fun c27 => ?_) (fun c27 => ?_)
    · replace h := jpos c27 h
      refine ev_mask [true, true, true, true, false] ?_
      exact t_Model_tell_j36 hG h
    · replace h := jneg c27 h
      refine ev_seg (o := 10) (nL := 5) (q := 15) (xs := [(.aload_n 0, 1, 0, 0, .null), (.iload_n 2, 1, 2, 0, .null)]) (L' := [some (.ref 93), some (.int x1), some (.int x2), some (.int x3), none]) (st' := [.int x2, .ref 93]) (w' := q1.2) (g := []) (K := []) (by decide +kernel) rfl rfl rfl rfl jk0 ?_
      obtain ⟨q22, hq22, h⟩ := jbe h
      refine ev_callV (ci := 10) (a := 93) (y2 := y_Model_isSite) (o := 10) (idx := 50) (d2 := d_Model_isSite) (n := 1) (mc2 := 0) (ms2 := 0) (As := [.int x2]) (st := []) (res2 := (some (.int q22.1), jR0, q22.2)) (by decide +kernel) rfl lk_10_50 mo_Model_isSite mv_Model_isSite ⟨Nat.le_of_ble_eq_true rfl, Nat.le_of_ble_eq_true rfl⟩ rfl rfl kz_93 (by decide) rfl (Nat.le_of_ble_eq_true rfl) ⟨Nat.le_refl _, Nat.le_refl _⟩ hG (e_Model_isSite hG hq22) ?_
      refine ev_if_eq (off := 45) (tgt := 63) (by decide +kernel) (by decide) (fun c26 => ?_) (fun c26 => ?_)
      · replace h := jpos c26 h
        refine ev_seg (o := 10) (nL := 5) (q := 64) (xs := [(.iconst (-1), 1, 0, 0, .int (-1))]) (L' := [some (.ref 93), some (.int x1), some (.int x2), some (.int x3), none]) (st' := [.int (-1)]) (w' := q22.2) (g := []) (K := []) (by decide +kernel) rfl rfl rfl rfl jk0 ?_
        cases h
        exact ev_iret (by decide +kernel) rfl rfl rfl rfl
      · replace h := jneg c26 h
        refine ev_seg (o := 10) (nL := 5) (q := 24) (xs := [(.aload_n 0, 1, 0, 0, .null), (.iload_n 2, 1, 2, 0, .null), (.iconst 0, 1, 0, 0, .int 0)]) (L' := [some (.ref 93), some (.int x1), some (.int x2), some (.int x3), none]) (st' := [.int 0, .int x2, .ref 93]) (w' := q22.2) (g := []) (K := []) (by decide +kernel) rfl rfl rfl rfl jk0 ?_
        obtain ⟨q23, hq23, h⟩ := jbe h
        refine ev_callV (ci := 10) (a := 93) (y2 := y_Model_siteAt) (o := 10) (idx := 54) (d2 := d_Model_siteAt) (n := 2) (mc2 := 0) (ms2 := 0) (As := [.int x2, .int 0]) (st := []) (res2 := (some (.int q23.1), jR0, q23.2)) (by decide +kernel) rfl lk_10_54 mo_Model_siteAt mv_Model_siteAt ⟨Nat.le_of_ble_eq_true rfl, Nat.le_of_ble_eq_true rfl⟩ rfl rfl kz_93 (by decide) rfl (Nat.le_of_ble_eq_true rfl) ⟨Nat.le_refl _, Nat.le_refl _⟩ hG (e_Model_siteAt hG hq23) ?_
        refine ev_seg (o := 10) (nL := 5) (q := 30) (xs := [(.aload_n 0, 1, 0, 0, .null), (.iload_n 1, 1, 1, 0, .null), (.iconst 3, 1, 0, 0, .int 3)]) (L' := [some (.ref 93), some (.int x1), some (.int x2), some (.int x3), none]) (st' := [.int 3, .int x1, .ref 93, .int q23.1]) (w' := q23.2) (g := []) (K := []) (by decide +kernel) rfl rfl rfl rfl jk0 ?_
        obtain ⟨q24, hq24, h⟩ := jbe h
        refine ev_callV (ci := 10) (a := 93) (y2 := y_Model_thingAt) (o := 10) (idx := 66) (d2 := d_Model_thingAt) (n := 2) (mc2 := 0) (ms2 := 0) (As := [.int x1, .int 3]) (st := [.int q23.1]) (res2 := (some (.int q24.1), jR0, q24.2)) (by decide +kernel) rfl lk_10_66 mo_Model_thingAt mv_Model_thingAt ⟨Nat.le_of_ble_eq_true rfl, Nat.le_of_ble_eq_true rfl⟩ rfl rfl kz_93 (by decide) rfl (Nat.le_of_ble_eq_true rfl) ⟨Nat.le_refl _, Nat.le_refl _⟩ hG (e_Model_thingAt hG hq24) ?_
        refine ev_icmp_ne (off := 30) (tgt := 63) (by decide +kernel) (by decide) (fun c25 => ?_) (fun c25 => ?_)
        · replace h := jneg c25 h
          refine ev_seg (o := 10) (nL := 5) (q := 64) (xs := [(.iconst (-1), 1, 0, 0, .int (-1))]) (L' := [some (.ref 93), some (.int x1), some (.int x2), some (.int x3), none]) (st' := [.int (-1)]) (w' := q24.2) (g := []) (K := []) (by decide +kernel) rfl rfl rfl rfl jk0 ?_
          cases h
          exact ev_iret (by decide +kernel) rfl rfl rfl rfl
        · replace h := jpos c25 h
          refine ev_mask [true, true, true, true, false] ?_
          exact t_Model_tell_j36 hG h
def f_Model_toldOf_h6 : Nat → Int32 → Int32 → Int32 → Int32 → Int32 → jW → Option (Int32 × jW)
  | 0, _, _, _, _, _, _ => none
  | n + 1, x1, x2, x3, x4, x5, w =>
  if jal [jin 7 21000] = true then
  if x5 < (w.1 94 (Int32.toNatClampNeg 7)) then
    if jal [jin (9680 + (8 * x5)) 21000] = true then
    if (w.1 94 (Int32.toNatClampNeg (9680 + (8 * x5)))) = x1 then
      if jal [jin ((9680 + (8 * x5)) + 2) 21000] = true then
      if (w.1 94 (Int32.toNatClampNeg ((9680 + (8 * x5)) + 2))) ≤ x2 then
        if jal [jin ((9680 + (8 * x5)) + 3) 21000] = true then
        if (w.1 94 (Int32.toNatClampNeg ((9680 + (8 * x5)) + 3))) ≤ x3 then
          if x4 < 0 then
            (f_Model_toldOf_h6 n) x1 x2 x3 (9680 + (8 * x5)) (x5 + 1) w
          else
            if jal [jin (x4 + 2) 21000, jin ((9680 + (8 * x5)) + 2) 21000] = true then
            if (w.1 94 (Int32.toNatClampNeg ((9680 + (8 * x5)) + 2))) < (w.1 94 (Int32.toNatClampNeg (x4 + 2))) then
              (f_Model_toldOf_h6 n) x1 x2 x3 x4 (x5 + 1) w
            else
              (f_Model_toldOf_h6 n) x1 x2 x3 (9680 + (8 * x5)) (x5 + 1) w
            else none
        else
          (f_Model_toldOf_h6 n) x1 x2 x3 x4 (x5 + 1) w
        else none
      else
        (f_Model_toldOf_h6 n) x1 x2 x3 x4 (x5 + 1) w
      else none
    else
      (f_Model_toldOf_h6 n) x1 x2 x3 x4 (x5 + 1) w
    else none
  else
    if x4 < 0 then
      some ((-1), w)
    else
      if jal [jin (x4 + 1) 21000] = true then
      some ((w.1 94 (Int32.toNatClampNeg (x4 + 1))), w)
      else none
  else none
set_option maxRecDepth 20000 in
theorem t_Model_toldOf_h6 {l : Launch} {G : jG} (hG : jX G) : ∀ (n : Nat) (x1 : Int32) (x2 : Int32) (x3 : Int32) (x4 : Int32) (x5 : Int32) (w : jW) (z : (Int32 × jW)), f_Model_toldOf_h6 n x1 x2 x3 x4 x5 w = some z → Ev l G (jrm d_Model_toldOf 0 0) y_Model_toldOf (some (.int z.1), jR0, z.2) 0 0 0 0 6 [some (.ref 93), some (.int x1), some (.int x2), some (.int x3), some (.int x4), some (.int x5), none] [] jR0 w := by
  intro n
  induction n with
  | zero => intro x1 x2 x3 x4 x5 w z h; simp only [f_Model_toldOf_h6] at h; cases h
  | succ n ih =>
    intro x1 x2 x3 x4 x5 w z h
    rw [f_Model_toldOf_h6] at h
    obtain ⟨hg1, h⟩ := jgd h
    refine ev_seg (o := 10) (nL := 7) (q := 15) (xs := [(.iload 5, 2, 5, 0, .null), (.aload_n 0, 1, 0, 0, .null), (.getfield 7, 3, 10, 0, .ref 20), (.bipush 7, 2, 0, 0, .int 7), (.iaload, 1, 0, 0, .null)]) (L' := [some (.ref 93), some (.int x1), some (.int x2), some (.int x3), some (.int x4), some (.int x5), none]) (st' := [.int (w.1 94 (Int32.toNatClampNeg 7)), .int x5]) (w' := w) (g := [jin 7 21000]) (K := [(94, 20), (94, 20), (93, 10)]) (by decide +kernel) rfl rfl rfl hg1 (jk1 kz_94 (jk1 kz_94 (jk1 kz_93 jk0))) ?_
    refine ev_icmp_ge (off := 87) (tgt := 102) (by decide +kernel) (by decide) (fun c13 => ?_) (fun c13 => ?_)
    · replace h := jneg c13 h
      refine ev_seg (o := 10) (nL := 7) (q := 104) (xs := [(.iload 4, 2, 4, 0, .null)]) (L' := [some (.ref 93), some (.int x1), some (.int x2), some (.int x3), some (.int x4), some (.int x5), none]) (st' := [.int x4]) (w' := w) (g := []) (K := []) (by decide +kernel) rfl rfl rfl rfl jk0 ?_
      refine ev_if_ge (off := 7) (tgt := 111) (by decide +kernel) (by decide) (fun c3 => ?_) (fun c3 => ?_)
      · replace h := jneg c3 h
        obtain ⟨hg2, h⟩ := jgd h
        refine ev_seg (o := 10) (nL := 7) (q := 120) (xs := [(.aload_n 0, 1, 0, 0, .null), (.getfield 7, 3, 10, 0, .ref 20), (.iload 4, 2, 4, 0, .null), (.iconst 1, 1, 0, 0, .int 1), (.iadd, 1, 0, 0, .null), (.iaload, 1, 0, 0, .null)]) (L' := [some (.ref 93), some (.int x1), some (.int x2), some (.int x3), some (.int x4), some (.int x5), none]) (st' := [.int (w.1 94 (Int32.toNatClampNeg (x4 + 1)))]) (w' := w) (g := [jin (x4 + 1) 21000]) (K := [(94, 20), (94, 20), (93, 10)]) (by decide +kernel) rfl rfl rfl hg2 (jk1 kz_94 (jk1 kz_94 (jk1 kz_93 jk0))) ?_
        cases h
        exact ev_iret (by decide +kernel) rfl rfl rfl rfl
      · replace h := jpos c3 h
        refine ev_seg (o := 10) (nL := 7) (q := 120) (xs := [(.iconst (-1), 1, 0, 0, .int (-1)), (.goto 12, 3, 0, 0, .null)]) (L' := [some (.ref 93), some (.int x1), some (.int x2), some (.int x3), some (.int x4), some (.int x5), none]) (st' := [.int (-1)]) (w' := w) (g := []) (K := []) (by decide +kernel) rfl rfl rfl rfl jk0 ?_
        cases h
        exact ev_iret (by decide +kernel) rfl rfl rfl rfl
    · replace h := jpos c13 h
      obtain ⟨hg4, h⟩ := jgd h
      refine ev_seg (o := 10) (nL := 7) (q := 37) (xs := [(.sipush 9680, 3, 0, 0, .int 9680), (.bipush 8, 2, 0, 0, .int 8), (.iload 5, 2, 5, 0, .null), (.imul, 1, 0, 0, .null), (.iadd, 1, 0, 0, .null), (.istore 6, 2, 6, 0, .null), (.aload_n 0, 1, 0, 0, .null), (.getfield 7, 3, 10, 0, .ref 20), (.iload 6, 2, 6, 0, .null), (.iaload, 1, 0, 0, .null), (.iload_n 1, 1, 1, 0, .null)]) (L' := [some (.ref 93), some (.int x1), some (.int x2), some (.int x3), some (.int x4), some (.int x5), some (.int (9680 + (8 * x5)))]) (st' := [.int x1, .int (w.1 94 (Int32.toNatClampNeg (9680 + (8 * x5))))]) (w' := w) (g := [jin (9680 + (8 * x5)) 21000]) (K := [(94, 20), (94, 20), (93, 10)]) (by decide +kernel) rfl rfl rfl hg4 (jk1 kz_94 (jk1 kz_94 (jk1 kz_93 jk0))) ?_
      refine ev_icmp_ne (off := 59) (tgt := 96) (by decide +kernel) (by decide) (fun c12 => ?_) (fun c12 => ?_)
      · replace h := jneg c12 h
        refine ev_seg (o := 10) (nL := 7) (q := 6) (xs := [(.iinc 5 1, 3, 5, 0, .int 1), (.goto (-93), 3, 0, 0, .null)]) (L' := [some (.ref 93), some (.int x1), some (.int x2), some (.int x3), some (.int x4), some (.int (x5 + 1)), some (.int (9680 + (8 * x5)))]) (st' := []) (w' := w) (g := []) (K := []) (by decide +kernel) rfl rfl rfl rfl jk0 ?_
        refine ev_mask [true, true, true, true, true, true, false] ?_
        exact ih _ _ _ _ _ _ _ h
      · replace h := jpos c12 h
        obtain ⟨hg5, h⟩ := jgd h
        refine ev_seg (o := 10) (nL := 7) (q := 50) (xs := [(.aload_n 0, 1, 0, 0, .null), (.getfield 7, 3, 10, 0, .ref 20), (.iload 6, 2, 6, 0, .null), (.iconst 2, 1, 0, 0, .int 2), (.iadd, 1, 0, 0, .null), (.iaload, 1, 0, 0, .null), (.iload_n 2, 1, 2, 0, .null)]) (L' := [some (.ref 93), some (.int x1), some (.int x2), some (.int x3), some (.int x4), some (.int x5), some (.int (9680 + (8 * x5)))]) (st' := [.int x2, .int (w.1 94 (Int32.toNatClampNeg ((9680 + (8 * x5)) + 2)))]) (w' := w) (g := [jin ((9680 + (8 * x5)) + 2) 21000]) (K := [(94, 20), (94, 20), (93, 10)]) (by decide +kernel) rfl rfl rfl hg5 (jk1 kz_94 (jk1 kz_94 (jk1 kz_93 jk0))) ?_
        refine ev_icmp_gt (off := 46) (tgt := 96) (by decide +kernel) (by decide) (fun c11 => ?_) (fun c11 => ?_)
        · replace h := jneg c11 h
          refine ev_seg (o := 10) (nL := 7) (q := 6) (xs := [(.iinc 5 1, 3, 5, 0, .int 1), (.goto (-93), 3, 0, 0, .null)]) (L' := [some (.ref 93), some (.int x1), some (.int x2), some (.int x3), some (.int x4), some (.int (x5 + 1)), some (.int (9680 + (8 * x5)))]) (st' := []) (w' := w) (g := []) (K := []) (by decide +kernel) rfl rfl rfl rfl jk0 ?_
          refine ev_mask [true, true, true, true, true, true, false] ?_
          exact ih _ _ _ _ _ _ _ h
        · replace h := jpos c11 h
          obtain ⟨hg6, h⟩ := jgd h
          refine ev_seg (o := 10) (nL := 7) (q := 63) (xs := [(.aload_n 0, 1, 0, 0, .null), (.getfield 7, 3, 10, 0, .ref 20), (.iload 6, 2, 6, 0, .null), (.iconst 3, 1, 0, 0, .int 3), (.iadd, 1, 0, 0, .null), (.iaload, 1, 0, 0, .null), (.iload_n 3, 1, 3, 0, .null)]) (L' := [some (.ref 93), some (.int x1), some (.int x2), some (.int x3), some (.int x4), some (.int x5), some (.int (9680 + (8 * x5)))]) (st' := [.int x3, .int (w.1 94 (Int32.toNatClampNeg ((9680 + (8 * x5)) + 3)))]) (w' := w) (g := [jin ((9680 + (8 * x5)) + 3) 21000]) (K := [(94, 20), (94, 20), (93, 10)]) (by decide +kernel) rfl rfl rfl hg6 (jk1 kz_94 (jk1 kz_94 (jk1 kz_93 jk0))) ?_
          refine ev_icmp_gt (off := 33) (tgt := 96) (by decide +kernel) (by decide) (fun c10 => ?_) (fun c10 => ?_)
          · replace h := jneg c10 h
            refine ev_seg (o := 10) (nL := 7) (q := 6) (xs := [(.iinc 5 1, 3, 5, 0, .int 1), (.goto (-93), 3, 0, 0, .null)]) (L' := [some (.ref 93), some (.int x1), some (.int x2), some (.int x3), some (.int x4), some (.int (x5 + 1)), some (.int (9680 + (8 * x5)))]) (st' := []) (w' := w) (g := []) (K := []) (by decide +kernel) rfl rfl rfl rfl jk0 ?_
            refine ev_mask [true, true, true, true, true, true, false] ?_
            exact ih _ _ _ _ _ _ _ h
          · replace h := jpos c10 h
            refine ev_seg (o := 10) (nL := 7) (q := 68) (xs := [(.iload 4, 2, 4, 0, .null)]) (L' := [some (.ref 93), some (.int x1), some (.int x2), some (.int x3), some (.int x4), some (.int x5), some (.int (9680 + (8 * x5)))]) (st' := [.int x4]) (w' := w) (g := []) (K := []) (by decide +kernel) rfl rfl rfl rfl jk0 ?_
            refine ev_if_lt (off := 24) (tgt := 92) (by decide +kernel) (by decide) (fun c9 => ?_) (fun c9 => ?_)
            · replace h := jpos c9 h
              refine ev_seg (o := 10) (nL := 7) (q := 6) (xs := [(.iload 6, 2, 6, 0, .null), (.istore 4, 2, 4, 0, .null), (.iinc 5 1, 3, 5, 0, .int 1), (.goto (-93), 3, 0, 0, .null)]) (L' := [some (.ref 93), some (.int x1), some (.int x2), some (.int x3), some (.int (9680 + (8 * x5))), some (.int (x5 + 1)), some (.int (9680 + (8 * x5)))]) (st' := []) (w' := w) (g := []) (K := []) (by decide +kernel) rfl rfl rfl rfl jk0 ?_
              refine ev_mask [true, true, true, true, true, true, false] ?_
              exact ih _ _ _ _ _ _ _ h
            · replace h := jneg c9 h
              obtain ⟨hg7, h⟩ := jgd h
              refine ev_seg (o := 10) (nL := 7) (q := 89) (xs := [(.aload_n 0, 1, 0, 0, .null), (.getfield 7, 3, 10, 0, .ref 20), (.iload 6, 2, 6, 0, .null), (.iconst 2, 1, 0, 0, .int 2), (.iadd, 1, 0, 0, .null), (.iaload, 1, 0, 0, .null), (.aload_n 0, 1, 0, 0, .null), (.getfield 7, 3, 10, 0, .ref 20), (.iload 4, 2, 4, 0, .null), (.iconst 2, 1, 0, 0, .int 2), (.iadd, 1, 0, 0, .null), (.iaload, 1, 0, 0, .null)]) (L' := [some (.ref 93), some (.int x1), some (.int x2), some (.int x3), some (.int x4), some (.int x5), some (.int (9680 + (8 * x5)))]) (st' := [.int (w.1 94 (Int32.toNatClampNeg (x4 + 2))), .int (w.1 94 (Int32.toNatClampNeg ((9680 + (8 * x5)) + 2)))]) (w' := w) (g := [jin (x4 + 2) 21000, jin ((9680 + (8 * x5)) + 2) 21000]) (K := [(94, 20), (94, 20), (93, 10), (94, 20), (94, 20), (93, 10)]) (by decide +kernel) rfl rfl rfl hg7 (jk1 kz_94 (jk1 kz_94 (jk1 kz_93 (jk1 kz_94 (jk1 kz_94 (jk1 kz_93 jk0)))))) ?_
              refine ev_icmp_lt (off := 7) (tgt := 96) (by decide +kernel) (by decide) (fun c8 => ?_) (fun c8 => ?_)
              · replace h := jpos c8 h
                refine ev_seg (o := 10) (nL := 7) (q := 6) (xs := [(.iinc 5 1, 3, 5, 0, .int 1), (.goto (-93), 3, 0, 0, .null)]) (L' := [some (.ref 93), some (.int x1), some (.int x2), some (.int x3), some (.int x4), some (.int (x5 + 1)), some (.int (9680 + (8 * x5)))]) (st' := []) (w' := w) (g := []) (K := []) (by decide +kernel) rfl rfl rfl rfl jk0 ?_
                refine ev_mask [true, true, true, true, true, true, false] ?_
                exact ih _ _ _ _ _ _ _ h
              · replace h := jneg c8 h
                refine ev_seg (o := 10) (nL := 7) (q := 6) (xs := [(.iload 6, 2, 6, 0, .null), (.istore 4, 2, 4, 0, .null), (.iinc 5 1, 3, 5, 0, .int 1), (.goto (-93), 3, 0, 0, .null)]) (L' := [some (.ref 93), some (.int x1), some (.int x2), some (.int x3), some (.int (9680 + (8 * x5))), some (.int (x5 + 1)), some (.int (9680 + (8 * x5)))]) (st' := []) (w' := w) (g := []) (K := []) (by decide +kernel) rfl rfl rfl rfl jk0 ?_
                refine ev_mask [true, true, true, true, true, true, false] ?_
                exact ih _ _ _ _ _ _ _ h
def f_Model_toldOf (x1 : Int32) (x2 : Int32) (x3 : Int32) (w : jW) : Option (Int32 × jW) :=
  f_Model_toldOf_h6 jfu x1 x2 x3 (-1) 0 w
set_option maxRecDepth 20000 in
theorem e_Model_toldOf {l : Launch} {G : jG} (hG : jX G) {x1 : Int32} {x2 : Int32} {x3 : Int32} {w : jW} {z : (Int32 × jW)} (h : f_Model_toldOf x1 x2 x3 w = some z) : Ct l G y_Model_toldOf d_Model_toldOf 0 0 [.ref 93, .int x1, .int x2, .int x3] jR0 w (some (.int z.1), jR0, z.2) := by
  rw [f_Model_toldOf] at h
  refine Ct.of (L := [some (.ref 93), some (.int x1), some (.int x2), some (.int x3), none, none, none]) (by decide) (Nat.le_of_ble_eq_true rfl) rfl ?_
  refine ev_seg (o := 10) (nL := 7) (q := 6) (xs := [(.iconst (-1), 1, 0, 0, .int (-1)), (.istore 4, 2, 4, 0, .null), (.iconst 0, 1, 0, 0, .int 0), (.istore 5, 2, 5, 0, .null)]) (L' := [some (.ref 93), some (.int x1), some (.int x2), some (.int x3), some (.int (-1)), some (.int 0), none]) (st' := []) (w' := w) (g := []) (K := []) (by decide +kernel) rfl rfl rfl rfl jk0 ?_
  refine ev_mask [true, true, true, true, true, true, false] ?_
  exact t_Model_toldOf_h6 hG jfu _ _ _ _ _ _ _ h

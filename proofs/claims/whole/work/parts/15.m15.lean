def f_Reader_fail (x1 : Int32) (w : jW) : Option (Int32 × jW) :=
  jlw ((jup w.1 73 3 x1), w.2) fun w1 =>
  some (0, w1)
set_option maxRecDepth 20000 in
theorem e_Reader_fail {l : Launch} {G : jG} (hG : jX G) {x1 : Int32} {w : jW} {z : (Int32 × jW)} (h : f_Reader_fail x1 w = some z) : Ct l G y_Reader_fail d_Reader_fail 0 0 [.ref 73, .int x1] jR0 w (some (.int z.1), jR0, z.2) := by
  rw [f_Reader_fail] at h
  refine Ct.of (L := [some (.ref 73), some (.int x1)]) (by decide) (Nat.le_of_ble_eq_true rfl) rfl ?_
  refine ev_seg (o := 2) (nL := 2) (q := 5) (xs := [(.aload_n 0, 1, 0, 0, .null), (.iload_n 1, 1, 1, 0, .null), (.putfield 38, 3, 2, 3, .int 0)]) (L' := [some (.ref 73), some (.int x1)]) (st' := []) (w' := ((jup w.1 73 3 x1), w.2)) (g := []) (K := [(73, 2)]) (by decide +kernel) rfl rfl rfl rfl (jk1 kz_73 jk0) ?_
  refine jlw_c (P := fun w1 => Ev l G (jrm d_Reader_fail 0 0) y_Reader_fail (some (.int z.1), jR0, z.2) 0 0 0 0 5 [some (.ref 73), some (.int x1)] [] jR0 w1) h fun w1 h => ?_
  refine ev_seg (o := 2) (nL := 2) (q := 6) (xs := [(.iconst 0, 1, 0, 0, .int 0)]) (L' := [some (.ref 73), some (.int x1)]) (st' := [.int 0]) (w' := w1) (g := []) (K := []) (by decide +kernel) rfl rfl rfl rfl jk0 ?_
  cases h
  exact ev_zret (by decide +kernel) rfl rfl rfl rfl rfl
def f_Reader_among_j50 (w : jW) : Option (Int32 × jW) :=
  Option.bind (f_Reader_fail 2 w) fun q3 =>
  if jbo q3.1 = true then some (q3.1, q3.2) else none
set_option maxRecDepth 20000 in
theorem t_Reader_among_j50 {l : Launch} {G : jG} (hG : jX G) {w : jW} {z : (Int32 × jW)} (h : f_Reader_among_j50 w = some z) : Ev l G (jrm d_Reader_among 0 0) y_Reader_among (some (.int z.1), jR0, z.2) 0 0 0 0 50 [some (.ref 73), none, none, none, none, none] [] jR0 w := by
  rw [f_Reader_among_j50] at h
  refine ev_seg (o := 2) (nL := 6) (q := 52) (xs := [(.aload_n 0, 1, 0, 0, .null), (.iconst 2, 1, 0, 0, .int 2)]) (L' := [some (.ref 73), none, none, none, none, none]) (st' := [.int 2, .ref 73]) (w' := w) (g := []) (K := []) (by decide +kernel) rfl rfl rfl rfl jk0 ?_
  obtain ⟨q3, hq3, h⟩ := jbe h
  refine ev_callV (ci := 2) (a := 73) (y2 := y_Reader_fail) (o := 2) (idx := 63) (d2 := d_Reader_fail) (n := 1) (mc2 := 0) (ms2 := 0) (As := [.int 2]) (st := []) (res2 := (some (.int q3.1), jR0, q3.2)) (by decide +kernel) rfl lk_2_63 mo_Reader_fail mv_Reader_fail ⟨Nat.le_of_ble_eq_true rfl, Nat.le_of_ble_eq_true rfl⟩ rfl rfl kz_73 (by decide) rfl (Nat.le_of_ble_eq_true rfl) ⟨Nat.le_refl _, Nat.le_refl _⟩ hG (e_Reader_fail hG hq3) ?_
  obtain ⟨hz, h⟩ := jgd h
  cases h
  exact ev_zret (by decide +kernel) rfl hz rfl rfl rfl
def f_Reader_among (x1 : Int32) (x2 : Int32) (x3 : Int32) (x4 : Int32) (w : jW) : Option (Int32 × jW) :=
  Option.bind (f_Rows_at 81 (w.1 73 7) 2 w) fun q1 =>
  Option.bind (f_Rows_at 81 (q1.2.1 73 7) 0 q1.2) fun q2 =>
  if q2.1 = 27 then
    if q1.1 < x3 then
      f_Reader_among_j50 q2.2
    else
      if q1.1 ≤ x4 then
        Option.bind (f_Rows_put 74 x1 x2 q1.1 q2.2) fun q4 =>
        jlw ((jup q4.1 73 7 ((q4.1 73 7) + 1)), q4.2) fun w5 =>
        some (1, w5)
      else
        f_Reader_among_j50 q2.2
  else
    Option.bind (f_Reader_fail 1 q2.2) fun q8 =>
    if jbo q8.1 = true then some (q8.1, q8.2) else none
set_option maxRecDepth 20000 in
theorem e_Reader_among {l : Launch} {G : jG} (hG : jX G) {x1 : Int32} {x2 : Int32} {x3 : Int32} {x4 : Int32} {w : jW} {z : (Int32 × jW)} (h : f_Reader_among x1 x2 x3 x4 w = some z) : Ct l G y_Reader_among d_Reader_among 0 0 [.ref 73, .int x1, .int x2, .int x3, .int x4] jR0 w (some (.int z.1), jR0, z.2) := by
  rw [f_Reader_among] at h
  refine Ct.of (L := [some (.ref 73), some (.int x1), some (.int x2), some (.int x3), some (.int x4), none]) (by decide) (Nat.le_of_ble_eq_true rfl) rfl ?_
  refine ev_seg (o := 2) (nL := 6) (q := 9) (xs := [(.aload_n 0, 1, 0, 0, .null), (.getfield 33, 3, 2, 6, .ref 3), (.aload_n 0, 1, 0, 0, .null), (.getfield 45, 3, 2, 7, .int 0), (.iconst 2, 1, 0, 0, .int 2)]) (L' := [some (.ref 73), some (.int x1), some (.int x2), some (.int x3), some (.int x4), none]) (st' := [.int 2, .int (w.1 73 7), .ref 81]) (w' := w) (g := []) (K := [(73, 2), (81, 3), (73, 2)]) (by decide +kernel) rfl rfl rfl rfl (jk1 kz_73 (jk1 kz_81 (jk1 kz_73 jk0))) ?_
  obtain ⟨q1, hq1, h⟩ := jbe h
  refine ev_callV (ci := 3) (a := 81) (y2 := y_Rows_at) (o := 2) (idx := 55) (d2 := d_Rows_at) (n := 2) (mc2 := 0) (ms2 := 0) (As := [.int (w.1 73 7), .int 2]) (st := []) (res2 := (some (.int q1.1), jR0, q1.2)) (by decide +kernel) rfl lk_2_55 mo_Rows_at mv_Rows_at ⟨Nat.le_of_ble_eq_true rfl, Nat.le_of_ble_eq_true rfl⟩ rfl rfl kz_81 (by decide) rfl (Nat.le_of_ble_eq_true rfl) ⟨Nat.le_refl _, Nat.le_refl _⟩ hG (e_Rows_at hG kz_81 hq1) ?_
  refine ev_seg (o := 2) (nL := 6) (q := 23) (xs := [(.istore 5, 2, 5, 0, .null), (.aload_n 0, 1, 0, 0, .null), (.getfield 33, 3, 2, 6, .ref 3), (.aload_n 0, 1, 0, 0, .null), (.getfield 45, 3, 2, 7, .int 0), (.iconst 0, 1, 0, 0, .int 0)]) (L' := [some (.ref 73), some (.int x1), some (.int x2), some (.int x3), some (.int x4), some (.int q1.1)]) (st' := [.int 0, .int (q1.2.1 73 7), .ref 81]) (w' := q1.2) (g := []) (K := [(73, 2), (81, 3), (73, 2)]) (by decide +kernel) rfl rfl rfl rfl (jk1 kz_73 (jk1 kz_81 (jk1 kz_73 jk0))) ?_
  obtain ⟨q2, hq2, h⟩ := jbe h
  refine ev_callV (ci := 3) (a := 81) (y2 := y_Rows_at) (o := 2) (idx := 55) (d2 := d_Rows_at) (n := 2) (mc2 := 0) (ms2 := 0) (As := [.int (q1.2.1 73 7), .int 0]) (st := []) (res2 := (some (.int q2.1), jR0, q2.2)) (by decide +kernel) rfl lk_2_55 mo_Rows_at mv_Rows_at ⟨Nat.le_of_ble_eq_true rfl, Nat.le_of_ble_eq_true rfl⟩ rfl rfl kz_81 (by decide) rfl (Nat.le_of_ble_eq_true rfl) ⟨Nat.le_refl _, Nat.le_refl _⟩ hG (e_Rows_at hG kz_81 hq2) ?_
  refine ev_seg (o := 2) (nL := 6) (q := 28) (xs := [(.bipush 27, 2, 0, 0, .int 27)]) (L' := [some (.ref 73), some (.int x1), some (.int x2), some (.int x3), some (.int x4), some (.int q1.1)]) (st' := [.int 27, .int q2.1]) (w' := q2.2) (g := []) (K := []) (by decide +kernel) rfl rfl rfl rfl jk0 ?_
  refine ev_icmp_eq (off := 9) (tgt := 37) (by decide +kernel) (by decide) (fun c9 => ?_) (fun c9 => ?_)
  · replace h := jpos c9 h
    refine ev_seg (o := 2) (nL := 6) (q := 40) (xs := [(.iload 5, 2, 5, 0, .null), (.iload_n 3, 1, 3, 0, .null)]) (L' := [some (.ref 73), some (.int x1), some (.int x2), some (.int x3), some (.int x4), some (.int q1.1)]) (st' := [.int x3, .int q1.1]) (w' := q2.2) (g := []) (K := []) (by decide +kernel) rfl rfl rfl rfl jk0 ?_
    refine ev_icmp_lt (off := 10) (tgt := 50) (by decide +kernel) (by decide) (fun c7 => ?_) (fun c7 => ?_)
    · replace h := jpos c7 h
      refine ev_mask [true, false, false, false, false, false] ?_
      exact t_Reader_among_j50 hG h
    · replace h := jneg c7 h
      refine ev_seg (o := 2) (nL := 6) (q := 47) (xs := [(.iload 5, 2, 5, 0, .null), (.iload 4, 2, 4, 0, .null)]) (L' := [some (.ref 73), some (.int x1), some (.int x2), some (.int x3), some (.int x4), some (.int q1.1)]) (st' := [.int x4, .int q1.1]) (w' := q2.2) (g := []) (K := []) (by decide +kernel) rfl rfl rfl rfl jk0 ?_
      refine ev_icmp_le (off := 9) (tgt := 56) (by decide +kernel) (by decide) (fun c6 => ?_) (fun c6 => ?_)
      · replace h := jpos c6 h
        refine ev_seg (o := 2) (nL := 6) (q := 64) (xs := [(.aload_n 0, 1, 0, 0, .null), (.getfield 14, 3, 2, 0, .ref 3), (.iload_n 1, 1, 1, 0, .null), (.iload_n 2, 1, 2, 0, .null), (.iload 5, 2, 5, 0, .null)]) (L' := [some (.ref 73), some (.int x1), some (.int x2), some (.int x3), some (.int x4), some (.int q1.1)]) (st' := [.int q1.1, .int x2, .int x1, .ref 74]) (w' := q2.2) (g := []) (K := [(74, 3), (73, 2)]) (by decide +kernel) rfl rfl rfl rfl (jk1 kz_74 (jk1 kz_73 jk0)) ?_
        obtain ⟨q4, hq4, h⟩ := jbe h
        refine ev_callV (ci := 3) (a := 74) (y2 := y_Rows_put) (o := 2) (idx := 81) (d2 := d_Rows_put) (n := 3) (mc2 := 0) (ms2 := 0) (As := [.int x1, .int x2, .int q1.1]) (st := []) (res2 := (none, jR0, q4)) (by decide +kernel) rfl lk_2_81 mo_Rows_put mv_Rows_put ⟨Nat.le_of_ble_eq_true rfl, Nat.le_of_ble_eq_true rfl⟩ rfl rfl kz_74 (by decide) rfl (Nat.le_of_ble_eq_true rfl) ⟨Nat.le_refl _, Nat.le_refl _⟩ hG (e_Rows_put hG kz_74 hq4) ?_
        refine ev_seg (o := 2) (nL := 6) (q := 77) (xs := [(.aload_n 0, 1, 0, 0, .null), (.dup, 1, 0, 0, .null), (.getfield 45, 3, 2, 7, .int 0), (.iconst 1, 1, 0, 0, .int 1), (.iadd, 1, 0, 0, .null), (.putfield 45, 3, 2, 7, .int 0)]) (L' := [some (.ref 73), some (.int x1), some (.int x2), some (.int x3), some (.int x4), some (.int q1.1)]) (st' := []) (w' := ((jup q4.1 73 7 ((q4.1 73 7) + 1)), q4.2)) (g := []) (K := [(73, 2), (73, 2)]) (by decide +kernel) rfl rfl rfl rfl (jk1 kz_73 (jk1 kz_73 jk0)) ?_
        refine jlw_c (P := fun w5 => Ev l G (jrm d_Reader_among 0 0) y_Reader_among (some (.int z.1), jR0, z.2) 0 0 0 0 77 [some (.ref 73), some (.int x1), some (.int x2), some (.int x3), some (.int x4), some (.int q1.1)] [] jR0 w5) h fun w5 h => ?_
        refine ev_seg (o := 2) (nL := 6) (q := 78) (xs := [(.iconst 1, 1, 0, 0, .int 1)]) (L' := [some (.ref 73), some (.int x1), some (.int x2), some (.int x3), some (.int x4), some (.int q1.1)]) (st' := [.int 1]) (w' := w5) (g := []) (K := []) (by decide +kernel) rfl rfl rfl rfl jk0 ?_
        cases h
        exact ev_zret (by decide +kernel) rfl rfl rfl rfl rfl
      · replace h := jneg c6 h
        refine ev_mask [true, false, false, false, false, false] ?_
        exact t_Reader_among_j50 hG h
  · replace h := jneg c9 h
    refine ev_seg (o := 2) (nL := 6) (q := 33) (xs := [(.aload_n 0, 1, 0, 0, .null), (.iconst 1, 1, 0, 0, .int 1)]) (L' := [some (.ref 73), some (.int x1), some (.int x2), some (.int x3), some (.int x4), some (.int q1.1)]) (st' := [.int 1, .ref 73]) (w' := q2.2) (g := []) (K := []) (by decide +kernel) rfl rfl rfl rfl jk0 ?_
    obtain ⟨q8, hq8, h⟩ := jbe h
    refine ev_callV (ci := 2) (a := 73) (y2 := y_Reader_fail) (o := 2) (idx := 63) (d2 := d_Reader_fail) (n := 1) (mc2 := 0) (ms2 := 0) (As := [.int 1]) (st := []) (res2 := (some (.int q8.1), jR0, q8.2)) (by decide +kernel) rfl lk_2_63 mo_Reader_fail mv_Reader_fail ⟨Nat.le_of_ble_eq_true rfl, Nat.le_of_ble_eq_true rfl⟩ rfl rfl kz_73 (by decide) rfl (Nat.le_of_ble_eq_true rfl) ⟨Nat.le_refl _, Nat.le_refl _⟩ hG (e_Reader_fail hG hq8) ?_
    obtain ⟨hz, h⟩ := jgd h
    cases h
    exact ev_zret (by decide +kernel) rfl hz rfl rfl rfl
def f_Reader_expect (x1 : Int32) (w : jW) : Option (Int32 × jW) :=
  Option.bind (f_Rows_at 81 (w.1 73 7) 0 w) fun q1 =>
  if q1.1 = x1 then
    jlw ((jup q1.2.1 73 7 ((q1.2.1 73 7) + 1)), q1.2.2) fun w2 =>
    some (1, w2)
  else
    Option.bind (f_Reader_fail 1 q1.2) fun q3 =>
    if jbo q3.1 = true then some (q3.1, q3.2) else none
set_option maxRecDepth 20000 in
theorem e_Reader_expect {l : Launch} {G : jG} (hG : jX G) {x1 : Int32} {w : jW} {z : (Int32 × jW)} (h : f_Reader_expect x1 w = some z) : Ct l G y_Reader_expect d_Reader_expect 0 0 [.ref 73, .int x1] jR0 w (some (.int z.1), jR0, z.2) := by
  rw [f_Reader_expect] at h
  refine Ct.of (L := [some (.ref 73), some (.int x1)]) (by decide) (Nat.le_of_ble_eq_true rfl) rfl ?_
  refine ev_seg (o := 2) (nL := 2) (q := 9) (xs := [(.aload_n 0, 1, 0, 0, .null), (.getfield 33, 3, 2, 6, .ref 3), (.aload_n 0, 1, 0, 0, .null), (.getfield 45, 3, 2, 7, .int 0), (.iconst 0, 1, 0, 0, .int 0)]) (L' := [some (.ref 73), some (.int x1)]) (st' := [.int 0, .int (w.1 73 7), .ref 81]) (w' := w) (g := []) (K := [(73, 2), (81, 3), (73, 2)]) (by decide +kernel) rfl rfl rfl rfl (jk1 kz_73 (jk1 kz_81 (jk1 kz_73 jk0))) ?_
  obtain ⟨q1, hq1, h⟩ := jbe h
  refine ev_callV (ci := 3) (a := 81) (y2 := y_Rows_at) (o := 2) (idx := 55) (d2 := d_Rows_at) (n := 2) (mc2 := 0) (ms2 := 0) (As := [.int (w.1 73 7), .int 0]) (st := []) (res2 := (some (.int q1.1), jR0, q1.2)) (by decide +kernel) rfl lk_2_55 mo_Rows_at mv_Rows_at ⟨Nat.le_of_ble_eq_true rfl, Nat.le_of_ble_eq_true rfl⟩ rfl rfl kz_81 (by decide) rfl (Nat.le_of_ble_eq_true rfl) ⟨Nat.le_refl _, Nat.le_refl _⟩ hG (e_Rows_at hG kz_81 hq1) ?_
  refine ev_seg (o := 2) (nL := 2) (q := 13) (xs := [(.iload_n 1, 1, 1, 0, .null)]) (L' := [some (.ref 73), some (.int x1)]) (st' := [.int x1, .int q1.1]) (w' := q1.2) (g := []) (K := []) (by decide +kernel) rfl rfl rfl rfl jk0 ?_
  refine ev_icmp_eq (off := 9) (tgt := 22) (by decide +kernel) (by decide) (fun c4 => ?_) (fun c4 => ?_)
  · replace h := jpos c4 h
    refine ev_seg (o := 2) (nL := 2) (q := 32) (xs := [(.aload_n 0, 1, 0, 0, .null), (.dup, 1, 0, 0, .null), (.getfield 45, 3, 2, 7, .int 0), (.iconst 1, 1, 0, 0, .int 1), (.iadd, 1, 0, 0, .null), (.putfield 45, 3, 2, 7, .int 0)]) (L' := [some (.ref 73), some (.int x1)]) (st' := []) (w' := ((jup q1.2.1 73 7 ((q1.2.1 73 7) + 1)), q1.2.2)) (g := []) (K := [(73, 2), (73, 2)]) (by decide +kernel) rfl rfl rfl rfl (jk1 kz_73 (jk1 kz_73 jk0)) ?_
    refine jlw_c (P := fun w2 => Ev l G (jrm d_Reader_expect 0 0) y_Reader_expect (some (.int z.1), jR0, z.2) 0 0 0 0 32 [some (.ref 73), some (.int x1)] [] jR0 w2) h fun w2 h => ?_
    refine ev_seg (o := 2) (nL := 2) (q := 33) (xs := [(.iconst 1, 1, 0, 0, .int 1)]) (L' := [some (.ref 73), some (.int x1)]) (st' := [.int 1]) (w' := w2) (g := []) (K := []) (by decide +kernel) rfl rfl rfl rfl jk0 ?_
    cases h
    exact ev_zret (by decide +kernel) rfl rfl rfl rfl rfl
  · replace h := jneg c4 h
    refine ev_seg (o := 2) (nL := 2) (q := 18) (xs := [(.aload_n 0, 1, 0, 0, .null), (.iconst 1, 1, 0, 0, .int 1)]) (L' := [some (.ref 73), some (.int x1)]) (st' := [.int 1, .ref 73]) (w' := q1.2) (g := []) (K := []) (by decide +kernel) rfl rfl rfl rfl jk0 ?_
    obtain ⟨q3, hq3, h⟩ := jbe h
    refine ev_callV (ci := 2) (a := 73) (y2 := y_Reader_fail) (o := 2) (idx := 63) (d2 := d_Reader_fail) (n := 1) (mc2 := 0) (ms2 := 0) (As := [.int 1]) (st := []) (res2 := (some (.int q3.1), jR0, q3.2)) (by decide +kernel) rfl lk_2_63 mo_Reader_fail mv_Reader_fail ⟨Nat.le_of_ble_eq_true rfl, Nat.le_of_ble_eq_true rfl⟩ rfl rfl kz_73 (by decide) rfl (Nat.le_of_ble_eq_true rfl) ⟨Nat.le_refl _, Nat.le_refl _⟩ hG (e_Reader_fail hG hq3) ?_
    obtain ⟨hz, h⟩ := jgd h
    cases h
    exact ev_zret (by decide +kernel) rfl hz rfl rfl rfl
def f_Reader_one_j88 (s0 : Int32) (w : jW) : Option (Int32 × jW) :=
  Option.bind (f_Rows_open 76 s0 w) fun q3 =>
  jlw ((jup q3.2.1 73 7 ((q3.2.1 73 7) + 1)), q3.2.2) fun w4 =>
  some (1, w4)
set_option maxRecDepth 20000 in
theorem t_Reader_one_j88 {l : Launch} {G : jG} (hG : jX G) {s0 : Int32} {w : jW} {z : (Int32 × jW)} (h : f_Reader_one_j88 s0 w = some z) : Ev l G (jrm d_Reader_one 0 0) y_Reader_one (some (.int z.1), jR0, z.2) 0 0 0 0 88 [some (.ref 73), none, none] [.int s0, .ref 76] jR0 w := by
  rw [f_Reader_one_j88] at h
  obtain ⟨q3, hq3, h⟩ := jbe h
  refine ev_callV (ci := 3) (a := 76) (y2 := y_Rows_open) (o := 2) (idx := 66) (d2 := d_Rows_open) (n := 1) (mc2 := 0) (ms2 := 0) (As := [.int s0]) (st := []) (res2 := (some (.int q3.1), jR0, q3.2)) (by decide +kernel) rfl lk_2_66 mo_Rows_open mv_Rows_open ⟨Nat.le_of_ble_eq_true rfl, Nat.le_of_ble_eq_true rfl⟩ rfl rfl kz_76 (by decide) rfl (Nat.le_of_ble_eq_true rfl) ⟨Nat.le_refl _, Nat.le_refl _⟩ hG (e_Rows_open hG kz_76 hq3) ?_
  refine ev_seg (o := 2) (nL := 3) (q := 102) (xs := [(.pop, 1, 0, 0, .null), (.aload_n 0, 1, 0, 0, .null), (.dup, 1, 0, 0, .null), (.getfield 45, 3, 2, 7, .int 0), (.iconst 1, 1, 0, 0, .int 1), (.iadd, 1, 0, 0, .null), (.putfield 45, 3, 2, 7, .int 0)]) (L' := [some (.ref 73), none, none]) (st' := []) (w' := ((jup q3.2.1 73 7 ((q3.2.1 73 7) + 1)), q3.2.2)) (g := []) (K := [(73, 2), (73, 2)]) (by decide +kernel) rfl rfl rfl rfl (jk1 kz_73 (jk1 kz_73 jk0)) ?_
  refine jlw_c (P := fun w4 => Ev l G (jrm d_Reader_one 0 0) y_Reader_one (some (.int z.1), jR0, z.2) 0 0 0 0 102 [some (.ref 73), none, none] [] jR0 w4) h fun w4 h => ?_
  refine ev_seg (o := 2) (nL := 3) (q := 103) (xs := [(.iconst 1, 1, 0, 0, .int 1)]) (L' := [some (.ref 73), none, none]) (st' := [.int 1]) (w' := w4) (g := []) (K := []) (by decide +kernel) rfl rfl rfl rfl jk0 ?_
  cases h
  exact ev_zret (by decide +kernel) rfl rfl rfl rfl rfl
def f_Reader_one_j69 (x1 : Int32) (x2 : Int32) (w : jW) : Option (Int32 × jW) :=
  if x1 = 27 then
    f_Reader_one_j88 x2 w
  else
    f_Reader_one_j88 (20000 + x1) w
set_option maxRecDepth 20000 in
theorem t_Reader_one_j69 {l : Launch} {G : jG} (hG : jX G) {x1 : Int32} {x2 : Int32} {w : jW} {z : (Int32 × jW)} (h : f_Reader_one_j69 x1 x2 w = some z) : Ev l G (jrm d_Reader_one 0 0) y_Reader_one (some (.int z.1), jR0, z.2) 0 0 0 0 69 [some (.ref 73), some (.int x1), some (.int x2)] [] jR0 w := by
  rw [f_Reader_one_j69] at h
  refine ev_seg (o := 2) (nL := 3) (q := 76) (xs := [(.aload_n 0, 1, 0, 0, .null), (.getfield 20, 3, 2, 1, .ref 3), (.iload_n 1, 1, 1, 0, .null), (.bipush 27, 2, 0, 0, .int 27)]) (L' := [some (.ref 73), some (.int x1), some (.int x2)]) (st' := [.int 27, .int x1, .ref 76]) (w' := w) (g := []) (K := [(76, 3), (73, 2)]) (by decide +kernel) rfl rfl rfl rfl (jk1 kz_76 (jk1 kz_73 jk0)) ?_
  refine ev_icmp_ne (off := 7) (tgt := 83) (by decide +kernel) (by decide) (fun c5 => ?_) (fun c5 => ?_)
  · replace h := jneg c5 h
    refine ev_seg (o := 2) (nL := 3) (q := 88) (xs := [(.sipush 20000, 3, 0, 0, .int 20000), (.iload_n 1, 1, 1, 0, .null), (.iadd, 1, 0, 0, .null)]) (L' := [some (.ref 73), some (.int x1), some (.int x2)]) (st' := [.int (20000 + x1), .ref 76]) (w' := w) (g := []) (K := []) (by decide +kernel) rfl rfl rfl rfl jk0 ?_
    refine ev_mask [true, false, false] ?_
    exact t_Reader_one_j88 hG h
  · replace h := jpos c5 h
    refine ev_seg (o := 2) (nL := 3) (q := 88) (xs := [(.iload_n 2, 1, 2, 0, .null), (.goto 8, 3, 0, 0, .null)]) (L' := [some (.ref 73), some (.int x1), some (.int x2)]) (st' := [.int x2, .ref 76]) (w' := w) (g := []) (K := []) (by decide +kernel) rfl rfl rfl rfl jk0 ?_
    refine ev_mask [true, false, false] ?_
    exact t_Reader_one_j88 hG h
def f_Reader_one_j63 (w : jW) : Option (Int32 × jW) :=
  Option.bind (f_Reader_fail 1 w) fun q6 =>
  if jbo q6.1 = true then some (q6.1, q6.2) else none
set_option maxRecDepth 20000 in
theorem t_Reader_one_j63 {l : Launch} {G : jG} (hG : jX G) {w : jW} {z : (Int32 × jW)} (h : f_Reader_one_j63 w = some z) : Ev l G (jrm d_Reader_one 0 0) y_Reader_one (some (.int z.1), jR0, z.2) 0 0 0 0 63 [some (.ref 73), none, none] [] jR0 w := by
  rw [f_Reader_one_j63] at h
  refine ev_seg (o := 2) (nL := 3) (q := 65) (xs := [(.aload_n 0, 1, 0, 0, .null), (.iconst 1, 1, 0, 0, .int 1)]) (L' := [some (.ref 73), none, none]) (st' := [.int 1, .ref 73]) (w' := w) (g := []) (K := []) (by decide +kernel) rfl rfl rfl rfl jk0 ?_
  obtain ⟨q6, hq6, h⟩ := jbe h
  refine ev_callV (ci := 2) (a := 73) (y2 := y_Reader_fail) (o := 2) (idx := 63) (d2 := d_Reader_fail) (n := 1) (mc2 := 0) (ms2 := 0) (As := [.int 1]) (st := []) (res2 := (some (.int q6.1), jR0, q6.2)) (by decide +kernel) rfl lk_2_63 mo_Reader_fail mv_Reader_fail ⟨Nat.le_of_ble_eq_true rfl, Nat.le_of_ble_eq_true rfl⟩ rfl rfl kz_73 (by decide) rfl (Nat.le_of_ble_eq_true rfl) ⟨Nat.le_refl _, Nat.le_refl _⟩ hG (e_Reader_fail hG hq6) ?_
  obtain ⟨hz, h⟩ := jgd h
  cases h
  exact ev_zret (by decide +kernel) rfl hz rfl rfl rfl
def f_Reader_one_j45 (x1 : Int32) (x2 : Int32) (w : jW) : Option (Int32 × jW) :=
  if x1 = 27 then
    f_Reader_one_j69 x1 x2 w
  else
    if x1 < 13 then
      f_Reader_one_j63 w
    else
      if x1 ≤ 17 then
        f_Reader_one_j69 x1 x2 w
      else
        f_Reader_one_j63 w
set_option maxRecDepth 20000 in
theorem t_Reader_one_j45 {l : Launch} {G : jG} (hG : jX G) {x1 : Int32} {x2 : Int32} {w : jW} {z : (Int32 × jW)} (h : f_Reader_one_j45 x1 x2 w = some z) : Ev l G (jrm d_Reader_one 0 0) y_Reader_one (some (.int z.1), jR0, z.2) 0 0 0 0 45 [some (.ref 73), some (.int x1), some (.int x2)] [] jR0 w := by
  rw [f_Reader_one_j45] at h
  refine ev_seg (o := 2) (nL := 3) (q := 48) (xs := [(.iload_n 1, 1, 1, 0, .null), (.bipush 27, 2, 0, 0, .int 27)]) (L' := [some (.ref 73), some (.int x1), some (.int x2)]) (st' := [.int 27, .int x1]) (w' := w) (g := []) (K := []) (by decide +kernel) rfl rfl rfl rfl jk0 ?_
  refine ev_icmp_eq (off := 21) (tgt := 69) (by decide +kernel) (by decide) (fun c9 => ?_) (fun c9 => ?_)
  · replace h := jpos c9 h
    refine ev_mask [true, true, true] ?_
    exact t_Reader_one_j69 hG h
  · replace h := jneg c9 h
    refine ev_seg (o := 2) (nL := 3) (q := 54) (xs := [(.iload_n 1, 1, 1, 0, .null), (.bipush 13, 2, 0, 0, .int 13)]) (L' := [some (.ref 73), some (.int x1), some (.int x2)]) (st' := [.int 13, .int x1]) (w' := w) (g := []) (K := []) (by decide +kernel) rfl rfl rfl rfl jk0 ?_
    refine ev_icmp_lt (off := 9) (tgt := 63) (by decide +kernel) (by decide) (fun c8 => ?_) (fun c8 => ?_)
    · replace h := jpos c8 h
      refine ev_mask [true, false, false] ?_
      exact t_Reader_one_j63 hG h
    · replace h := jneg c8 h
      refine ev_seg (o := 2) (nL := 3) (q := 60) (xs := [(.iload_n 1, 1, 1, 0, .null), (.bipush 17, 2, 0, 0, .int 17)]) (L' := [some (.ref 73), some (.int x1), some (.int x2)]) (st' := [.int 17, .int x1]) (w' := w) (g := []) (K := []) (by decide +kernel) rfl rfl rfl rfl jk0 ?_
      refine ev_icmp_le (off := 9) (tgt := 69) (by decide +kernel) (by decide) (fun c7 => ?_) (fun c7 => ?_)
      · replace h := jpos c7 h
        refine ev_mask [true, true, true] ?_
        exact t_Reader_one_j69 hG h
      · replace h := jneg c7 h
        refine ev_mask [true, false, false] ?_
        exact t_Reader_one_j63 hG h
def f_Reader_one (w : jW) : Option (Int32 × jW) :=
  Option.bind (f_Rows_at 81 (w.1 73 7) 0 w) fun q1 =>
  Option.bind (f_Rows_at 81 (q1.2.1 73 7) 2 q1.2) fun q2 =>
  if q1.1 = 27 then
    if q2.1 ≤ 9999 then
      f_Reader_one_j45 q1.1 q2.1 q2.2
    else
      Option.bind (f_Reader_fail 2 q2.2) fun q10 =>
      if jbo q10.1 = true then some (q10.1, q10.2) else none
  else
    f_Reader_one_j45 q1.1 q2.1 q2.2
set_option maxRecDepth 20000 in
theorem e_Reader_one {l : Launch} {G : jG} (hG : jX G) {w : jW} {z : (Int32 × jW)} (h : f_Reader_one w = some z) : Ct l G y_Reader_one d_Reader_one 0 0 [.ref 73] jR0 w (some (.int z.1), jR0, z.2) := by
  rw [f_Reader_one] at h
  refine Ct.of (L := [some (.ref 73), none, none]) (by decide) (Nat.le_of_ble_eq_true rfl) rfl ?_
  refine ev_seg (o := 2) (nL := 3) (q := 9) (xs := [(.aload_n 0, 1, 0, 0, .null), (.getfield 33, 3, 2, 6, .ref 3), (.aload_n 0, 1, 0, 0, .null), (.getfield 45, 3, 2, 7, .int 0), (.iconst 0, 1, 0, 0, .int 0)]) (L' := [some (.ref 73), none, none]) (st' := [.int 0, .int (w.1 73 7), .ref 81]) (w' := w) (g := []) (K := [(73, 2), (81, 3), (73, 2)]) (by decide +kernel) rfl rfl rfl rfl (jk1 kz_73 (jk1 kz_81 (jk1 kz_73 jk0))) ?_
  obtain ⟨q1, hq1, h⟩ := jbe h
  refine ev_callV (ci := 3) (a := 81) (y2 := y_Rows_at) (o := 2) (idx := 55) (d2 := d_Rows_at) (n := 2) (mc2 := 0) (ms2 := 0) (As := [.int (w.1 73 7), .int 0]) (st := []) (res2 := (some (.int q1.1), jR0, q1.2)) (by decide +kernel) rfl lk_2_55 mo_Rows_at mv_Rows_at ⟨Nat.le_of_ble_eq_true rfl, Nat.le_of_ble_eq_true rfl⟩ rfl rfl kz_81 (by decide) rfl (Nat.le_of_ble_eq_true rfl) ⟨Nat.le_refl _, Nat.le_refl _⟩ hG (e_Rows_at hG kz_81 hq1) ?_
  refine ev_seg (o := 2) (nL := 3) (q := 22) (xs := [(.istore_n 1, 1, 1, 0, .null), (.aload_n 0, 1, 0, 0, .null), (.getfield 33, 3, 2, 6, .ref 3), (.aload_n 0, 1, 0, 0, .null), (.getfield 45, 3, 2, 7, .int 0), (.iconst 2, 1, 0, 0, .int 2)]) (L' := [some (.ref 73), some (.int q1.1), none]) (st' := [.int 2, .int (q1.2.1 73 7), .ref 81]) (w' := q1.2) (g := []) (K := [(73, 2), (81, 3), (73, 2)]) (by decide +kernel) rfl rfl rfl rfl (jk1 kz_73 (jk1 kz_81 (jk1 kz_73 jk0))) ?_
  obtain ⟨q2, hq2, h⟩ := jbe h
  refine ev_callV (ci := 3) (a := 81) (y2 := y_Rows_at) (o := 2) (idx := 55) (d2 := d_Rows_at) (n := 2) (mc2 := 0) (ms2 := 0) (As := [.int (q1.2.1 73 7), .int 2]) (st := []) (res2 := (some (.int q2.1), jR0, q2.2)) (by decide +kernel) rfl lk_2_55 mo_Rows_at mv_Rows_at ⟨Nat.le_of_ble_eq_true rfl, Nat.le_of_ble_eq_true rfl⟩ rfl rfl kz_81 (by decide) rfl (Nat.le_of_ble_eq_true rfl) ⟨Nat.le_refl _, Nat.le_refl _⟩ hG (e_Rows_at hG kz_81 hq2) ?_
  refine ev_seg (o := 2) (nL := 3) (q := 29) (xs := [(.istore_n 2, 1, 2, 0, .null), (.iload_n 1, 1, 1, 0, .null), (.bipush 27, 2, 0, 0, .int 27)]) (L' := [some (.ref 73), some (.int q1.1), some (.int q2.1)]) (st' := [.int 27, .int q1.1]) (w' := q2.2) (g := []) (K := []) (by decide +kernel) rfl rfl rfl rfl jk0 ?_
  refine ev_icmp_ne (off := 16) (tgt := 45) (by decide +kernel) (by decide) (fun c12 => ?_) (fun c12 => ?_)
  · replace h := jneg c12 h
    refine ev_mask [true, true, true] ?_
    exact t_Reader_one_j45 hG h
  · replace h := jpos c12 h
    refine ev_seg (o := 2) (nL := 3) (q := 36) (xs := [(.iload_n 2, 1, 2, 0, .null), (.sipush 9999, 3, 0, 0, .int 9999)]) (L' := [some (.ref 73), some (.int q1.1), some (.int q2.1)]) (st' := [.int 9999, .int q2.1]) (w' := q2.2) (g := []) (K := []) (by decide +kernel) rfl rfl rfl rfl jk0 ?_
    refine ev_icmp_le (off := 9) (tgt := 45) (by decide +kernel) (by decide) (fun c11 => ?_) (fun c11 => ?_)
    · replace h := jpos c11 h
      refine ev_mask [true, true, true] ?_
      exact t_Reader_one_j45 hG h
    · replace h := jneg c11 h
      refine ev_seg (o := 2) (nL := 3) (q := 41) (xs := [(.aload_n 0, 1, 0, 0, .null), (.iconst 2, 1, 0, 0, .int 2)]) (L' := [some (.ref 73), some (.int q1.1), some (.int q2.1)]) (st' := [.int 2, .ref 73]) (w' := q2.2) (g := []) (K := []) (by decide +kernel) rfl rfl rfl rfl jk0 ?_
      obtain ⟨q10, hq10, h⟩ := jbe h
      refine ev_callV (ci := 2) (a := 73) (y2 := y_Reader_fail) (o := 2) (idx := 63) (d2 := d_Reader_fail) (n := 1) (mc2 := 0) (ms2 := 0) (As := [.int 2]) (st := []) (res2 := (some (.int q10.1), jR0, q10.2)) (by decide +kernel) rfl lk_2_63 mo_Reader_fail mv_Reader_fail ⟨Nat.le_of_ble_eq_true rfl, Nat.le_of_ble_eq_true rfl⟩ rfl rfl kz_73 (by decide) rfl (Nat.le_of_ble_eq_true rfl) ⟨Nat.le_refl _, Nat.le_refl _⟩ hG (e_Reader_fail hG hq10) ?_
      obtain ⟨hz, h⟩ := jgd h
      cases h
      exact ev_zret (by decide +kernel) rfl hz rfl rfl rfl
def f_Reader_relation_j25 (w : jW) : Option (Int32 × jW) :=
  Option.bind (f_Reader_fail 1 w) fun q2 =>
  if jbo q2.1 = true then some (q2.1, q2.2) else none
set_option maxRecDepth 20000 in
theorem t_Reader_relation_j25 {l : Launch} {G : jG} (hG : jX G) {w : jW} {z : (Int32 × jW)} (h : f_Reader_relation_j25 w = some z) : Ev l G (jrm d_Reader_relation 0 0) y_Reader_relation (some (.int z.1), jR0, z.2) 0 0 0 0 25 [some (.ref 73), none] [] jR0 w := by
  rw [f_Reader_relation_j25] at h
  refine ev_seg (o := 2) (nL := 2) (q := 27) (xs := [(.aload_n 0, 1, 0, 0, .null), (.iconst 1, 1, 0, 0, .int 1)]) (L' := [some (.ref 73), none]) (st' := [.int 1, .ref 73]) (w' := w) (g := []) (K := []) (by decide +kernel) rfl rfl rfl rfl jk0 ?_
  obtain ⟨q2, hq2, h⟩ := jbe h
  refine ev_callV (ci := 2) (a := 73) (y2 := y_Reader_fail) (o := 2) (idx := 63) (d2 := d_Reader_fail) (n := 1) (mc2 := 0) (ms2 := 0) (As := [.int 1]) (st := []) (res2 := (some (.int q2.1), jR0, q2.2)) (by decide +kernel) rfl lk_2_63 mo_Reader_fail mv_Reader_fail ⟨Nat.le_of_ble_eq_true rfl, Nat.le_of_ble_eq_true rfl⟩ rfl rfl kz_73 (by decide) rfl (Nat.le_of_ble_eq_true rfl) ⟨Nat.le_refl _, Nat.le_refl _⟩ hG (e_Reader_fail hG hq2) ?_
  obtain ⟨hz, h⟩ := jgd h
  cases h
  exact ev_zret (by decide +kernel) rfl hz rfl rfl rfl
def f_Reader_relation (w : jW) : Option (Int32 × jW) :=
  Option.bind (f_Rows_at 81 (w.1 73 7) 0 w) fun q1 =>
  if q1.1 < 18 then
    f_Reader_relation_j25 q1.2
  else
    if q1.1 ≤ 23 then
      Option.bind (f_Rows_open 76 (30000 + q1.1) q1.2) fun q3 =>
      jlw ((jup q3.2.1 73 7 ((q3.2.1 73 7) + 1)), q3.2.2) fun w4 =>
      some (1, w4)
    else
      f_Reader_relation_j25 q1.2
set_option maxRecDepth 20000 in
theorem e_Reader_relation {l : Launch} {G : jG} (hG : jX G) {w : jW} {z : (Int32 × jW)} (h : f_Reader_relation w = some z) : Ct l G y_Reader_relation d_Reader_relation 0 0 [.ref 73] jR0 w (some (.int z.1), jR0, z.2) := by
  rw [f_Reader_relation] at h
  refine Ct.of (L := [some (.ref 73), none]) (by decide) (Nat.le_of_ble_eq_true rfl) rfl ?_
  refine ev_seg (o := 2) (nL := 2) (q := 9) (xs := [(.aload_n 0, 1, 0, 0, .null), (.getfield 33, 3, 2, 6, .ref 3), (.aload_n 0, 1, 0, 0, .null), (.getfield 45, 3, 2, 7, .int 0), (.iconst 0, 1, 0, 0, .int 0)]) (L' := [some (.ref 73), none]) (st' := [.int 0, .int (w.1 73 7), .ref 81]) (w' := w) (g := []) (K := [(73, 2), (81, 3), (73, 2)]) (by decide +kernel) rfl rfl rfl rfl (jk1 kz_73 (jk1 kz_81 (jk1 kz_73 jk0))) ?_
  obtain ⟨q1, hq1, h⟩ := jbe h
  refine ev_callV (ci := 3) (a := 81) (y2 := y_Rows_at) (o := 2) (idx := 55) (d2 := d_Rows_at) (n := 2) (mc2 := 0) (ms2 := 0) (As := [.int (w.1 73 7), .int 0]) (st := []) (res2 := (some (.int q1.1), jR0, q1.2)) (by decide +kernel) rfl lk_2_55 mo_Rows_at mv_Rows_at ⟨Nat.le_of_ble_eq_true rfl, Nat.le_of_ble_eq_true rfl⟩ rfl rfl kz_81 (by decide) rfl (Nat.le_of_ble_eq_true rfl) ⟨Nat.le_refl _, Nat.le_refl _⟩ hG (e_Rows_at hG kz_81 hq1) ?_
  refine ev_seg (o := 2) (nL := 2) (q := 16) (xs := [(.istore_n 1, 1, 1, 0, .null), (.iload_n 1, 1, 1, 0, .null), (.bipush 18, 2, 0, 0, .int 18)]) (L' := [some (.ref 73), some (.int q1.1)]) (st' := [.int 18, .int q1.1]) (w' := q1.2) (g := []) (K := []) (by decide +kernel) rfl rfl rfl rfl jk0 ?_
  refine ev_icmp_lt (off := 9) (tgt := 25) (by decide +kernel) (by decide) (fun c6 => ?_) (fun c6 => ?_)
  · replace h := jpos c6 h
    refine ev_mask [true, false] ?_
    exact t_Reader_relation_j25 hG h
  · replace h := jneg c6 h
    refine ev_seg (o := 2) (nL := 2) (q := 22) (xs := [(.iload_n 1, 1, 1, 0, .null), (.bipush 23, 2, 0, 0, .int 23)]) (L' := [some (.ref 73), some (.int q1.1)]) (st' := [.int 23, .int q1.1]) (w' := q1.2) (g := []) (K := []) (by decide +kernel) rfl rfl rfl rfl jk0 ?_
    refine ev_icmp_le (off := 9) (tgt := 31) (by decide +kernel) (by decide) (fun c5 => ?_) (fun c5 => ?_)
    · replace h := jpos c5 h
      refine ev_seg (o := 2) (nL := 2) (q := 40) (xs := [(.aload_n 0, 1, 0, 0, .null), (.getfield 20, 3, 2, 1, .ref 3), (.sipush 30000, 3, 0, 0, .int 30000), (.iload_n 1, 1, 1, 0, .null), (.iadd, 1, 0, 0, .null)]) (L' := [some (.ref 73), some (.int q1.1)]) (st' := [.int (30000 + q1.1), .ref 76]) (w' := q1.2) (g := []) (K := [(76, 3), (73, 2)]) (by decide +kernel) rfl rfl rfl rfl (jk1 kz_76 (jk1 kz_73 jk0)) ?_
      obtain ⟨q3, hq3, h⟩ := jbe h
      refine ev_callV (ci := 3) (a := 76) (y2 := y_Rows_open) (o := 2) (idx := 66) (d2 := d_Rows_open) (n := 1) (mc2 := 0) (ms2 := 0) (As := [.int (30000 + q1.1)]) (st := []) (res2 := (some (.int q3.1), jR0, q3.2)) (by decide +kernel) rfl lk_2_66 mo_Rows_open mv_Rows_open ⟨Nat.le_of_ble_eq_true rfl, Nat.le_of_ble_eq_true rfl⟩ rfl rfl kz_76 (by decide) rfl (Nat.le_of_ble_eq_true rfl) ⟨Nat.le_refl _, Nat.le_refl _⟩ hG (e_Rows_open hG kz_76 hq3) ?_
      refine ev_seg (o := 2) (nL := 2) (q := 54) (xs := [(.pop, 1, 0, 0, .null), (.aload_n 0, 1, 0, 0, .null), (.dup, 1, 0, 0, .null), (.getfield 45, 3, 2, 7, .int 0), (.iconst 1, 1, 0, 0, .int 1), (.iadd, 1, 0, 0, .null), (.putfield 45, 3, 2, 7, .int 0)]) (L' := [some (.ref 73), some (.int q1.1)]) (st' := []) (w' := ((jup q3.2.1 73 7 ((q3.2.1 73 7) + 1)), q3.2.2)) (g := []) (K := [(73, 2), (73, 2)]) (by decide +kernel) rfl rfl rfl rfl (jk1 kz_73 (jk1 kz_73 jk0)) ?_
      refine jlw_c (P := fun w4 => Ev l G (jrm d_Reader_relation 0 0) y_Reader_relation (some (.int z.1), jR0, z.2) 0 0 0 0 54 [some (.ref 73), some (.int q1.1)] [] jR0 w4) h fun w4 h => ?_
      refine ev_seg (o := 2) (nL := 2) (q := 55) (xs := [(.iconst 1, 1, 0, 0, .int 1)]) (L' := [some (.ref 73), some (.int q1.1)]) (st' := [.int 1]) (w' := w4) (g := []) (K := []) (by decide +kernel) rfl rfl rfl rfl jk0 ?_
      cases h
      exact ev_zret (by decide +kernel) rfl rfl rfl rfl rfl
    · replace h := jneg c5 h
      refine ev_mask [true, false] ?_
      exact t_Reader_relation_j25 hG h
def f_Treaty_adopt_h178 : Nat → Int32 → Int32 → Int32 → jW → Option (Int32 × jW)
  | 0, _, _, _, _ => none
  | n + 1, x3, x4, x6, w =>
  Option.bind (f_Rows_count 76 w) fun q6 =>
  if x6 < q6.1 then
    Option.bind (f_Rows_at 76 x6 0 q6.2) fun q10 =>
    Option.bind (f_Rows_open 21 q10.1 q10.2) fun q11 =>
    (f_Treaty_adopt_h178 n) x3 x4 (x6 + 1) q11.2
  else
    Option.bind (f_Rows_put 17 x3 1 x4 q6.2) fun q7 =>
    Option.bind (f_Rows_count 19 q7) fun q8 =>
    Option.bind (f_Rows_put 17 x3 3 q8.1 q8.2) fun q9 =>
    some (x3, q9)
set_option maxRecDepth 20000 in
theorem t_Treaty_adopt_h178 {l : Launch} {G : jG} (hG : jX G) : ∀ (n : Nat) (x3 : Int32) (x4 : Int32) (x6 : Int32) (w : jW) (z : (Int32 × jW)), f_Treaty_adopt_h178 n x3 x4 x6 w = some z → Ev l G (jrm d_Treaty_adopt 0 0) y_Treaty_adopt (some (.int z.1), jR0, z.2) 0 0 0 0 178 [some (.ref 16), some (.ref 73), none, some (.int x3), some (.int x4), none, some (.int x6), none, none, none] [] jR0 w := by
  intro n
  induction n with
  | zero => intro x3 x4 x6 w z h; simp only [f_Treaty_adopt_h178] at h; cases h
  | succ n ih =>
    intro x3 x4 x6 w z h
    rw [f_Treaty_adopt_h178] at h
    refine ev_seg (o := 8) (nL := 10) (q := 184) (xs := [(.iload 6, 2, 6, 0, .null), (.aload_n 1, 1, 1, 0, .null), (.getfield 53, 3, 2, 1, .ref 3)]) (L' := [some (.ref 16), some (.ref 73), none, some (.int x3), some (.int x4), none, some (.int x6), none, none, none]) (st' := [.ref 76, .int x6]) (w' := w) (g := []) (K := [(76, 3), (73, 2)]) (by decide +kernel) rfl rfl rfl rfl (jk1 kz_76 (jk1 kz_73 jk0)) ?_
    obtain ⟨q6, hq6, h⟩ := jbe h
    refine ev_callV (ci := 3) (a := 76) (y2 := y_Rows_count) (o := 8) (idx := 38) (d2 := d_Rows_count) (n := 0) (mc2 := 0) (ms2 := 0) (As := []) (st := [.int x6]) (res2 := (some (.int q6.1), jR0, q6.2)) (by decide +kernel) rfl lk_8_38 mo_Rows_count mv_Rows_count ⟨Nat.le_of_ble_eq_true rfl, Nat.le_of_ble_eq_true rfl⟩ rfl rfl kz_76 (by decide) rfl (Nat.le_of_ble_eq_true rfl) ⟨Nat.le_refl _, Nat.le_refl _⟩ hG (e_Rows_count hG kz_76 hq6) ?_
    refine ev_icmp_ge (off := 27) (tgt := 214) (by decide +kernel) (by decide) (fun c12 => ?_) (fun c12 => ?_)
    · replace h := jneg c12 h
      refine ev_seg (o := 8) (nL := 10) (q := 222) (xs := [(.aload_n 0, 1, 0, 0, .null), (.getfield 14, 3, 8, 0, .ref 3), (.iload_n 3, 1, 3, 0, .null), (.iconst 1, 1, 0, 0, .int 1), (.iload 4, 2, 4, 0, .null)]) (L' := [some (.ref 16), some (.ref 73), none, some (.int x3), some (.int x4), none, some (.int x6), none, none, none]) (st' := [.int x4, .int 1, .int x3, .ref 17]) (w' := q6.2) (g := []) (K := [(17, 3), (16, 8)]) (by decide +kernel) rfl rfl rfl rfl (jk1 kz_17 (jk1 kz_16 jk0)) ?_
      obtain ⟨q7, hq7, h⟩ := jbe h
      refine ev_callV (ci := 3) (a := 17) (y2 := y_Rows_put) (o := 8) (idx := 42) (d2 := d_Rows_put) (n := 3) (mc2 := 0) (ms2 := 0) (As := [.int x3, .int 1, .int x4]) (st := []) (res2 := (none, jR0, q7)) (by decide +kernel) rfl lk_8_42 mo_Rows_put mv_Rows_put ⟨Nat.le_of_ble_eq_true rfl, Nat.le_of_ble_eq_true rfl⟩ rfl rfl kz_17 (by decide) rfl (Nat.le_of_ble_eq_true rfl) ⟨Nat.le_refl _, Nat.le_refl _⟩ hG (e_Rows_put hG kz_17 hq7) ?_
      refine ev_seg (o := 8) (nL := 10) (q := 235) (xs := [(.aload_n 0, 1, 0, 0, .null), (.getfield 14, 3, 8, 0, .ref 3), (.iload_n 3, 1, 3, 0, .null), (.iconst 3, 1, 0, 0, .int 3), (.aload_n 0, 1, 0, 0, .null), (.getfield 20, 3, 8, 1, .ref 3)]) (L' := [some (.ref 16), some (.ref 73), none, some (.int x3), some (.int x4), none, some (.int x6), none, none, none]) (st' := [.ref 19, .int 3, .int x3, .ref 17]) (w' := q7) (g := []) (K := [(19, 3), (16, 8), (17, 3), (16, 8)]) (by decide +kernel) rfl rfl rfl rfl (jk1 kz_19 (jk1 kz_16 (jk1 kz_17 (jk1 kz_16 jk0)))) ?_
      obtain ⟨q8, hq8, h⟩ := jbe h
      refine ev_callV (ci := 3) (a := 19) (y2 := y_Rows_count) (o := 8) (idx := 38) (d2 := d_Rows_count) (n := 0) (mc2 := 0) (ms2 := 0) (As := []) (st := [.int 3, .int x3, .ref 17]) (res2 := (some (.int q8.1), jR0, q8.2)) (by decide +kernel) rfl lk_8_38 mo_Rows_count mv_Rows_count ⟨Nat.le_of_ble_eq_true rfl, Nat.le_of_ble_eq_true rfl⟩ rfl rfl kz_19 (by decide) rfl (Nat.le_of_ble_eq_true rfl) ⟨Nat.le_refl _, Nat.le_refl _⟩ hG (e_Rows_count hG kz_19 hq8) ?_
      obtain ⟨q9, hq9, h⟩ := jbe h
      refine ev_callV (ci := 3) (a := 17) (y2 := y_Rows_put) (o := 8) (idx := 42) (d2 := d_Rows_put) (n := 3) (mc2 := 0) (ms2 := 0) (As := [.int x3, .int 3, .int q8.1]) (st := []) (res2 := (none, jR0, q9)) (by decide +kernel) rfl lk_8_42 mo_Rows_put mv_Rows_put ⟨Nat.le_of_ble_eq_true rfl, Nat.le_of_ble_eq_true rfl⟩ rfl rfl kz_17 (by decide) rfl (Nat.le_of_ble_eq_true rfl) ⟨Nat.le_refl _, Nat.le_refl _⟩ hG (e_Rows_put hG kz_17 hq9) ?_
      refine ev_seg (o := 8) (nL := 10) (q := 242) (xs := [(.iload_n 3, 1, 3, 0, .null)]) (L' := [some (.ref 16), some (.ref 73), none, some (.int x3), some (.int x4), none, some (.int x6), none, none, none]) (st' := [.int x3]) (w' := q9) (g := []) (K := []) (by decide +kernel) rfl rfl rfl rfl jk0 ?_
      cases h
      exact ev_iret (by decide +kernel) rfl rfl rfl rfl
    · replace h := jpos c12 h
      refine ev_seg (o := 8) (nL := 10) (q := 201) (xs := [(.aload_n 0, 1, 0, 0, .null), (.getfield 23, 3, 8, 2, .ref 3), (.aload_n 1, 1, 1, 0, .null), (.getfield 53, 3, 2, 1, .ref 3), (.iload 6, 2, 6, 0, .null), (.iconst 0, 1, 0, 0, .int 0)]) (L' := [some (.ref 16), some (.ref 73), none, some (.int x3), some (.int x4), none, some (.int x6), none, none, none]) (st' := [.int 0, .int x6, .ref 76, .ref 21]) (w' := q6.2) (g := []) (K := [(76, 3), (73, 2), (21, 3), (16, 8)]) (by decide +kernel) rfl rfl rfl rfl (jk1 kz_76 (jk1 kz_73 (jk1 kz_21 (jk1 kz_16 jk0)))) ?_
      obtain ⟨q10, hq10, h⟩ := jbe h
      refine ev_callV (ci := 3) (a := 76) (y2 := y_Rows_at) (o := 8) (idx := 49) (d2 := d_Rows_at) (n := 2) (mc2 := 0) (ms2 := 0) (As := [.int x6, .int 0]) (st := [.ref 21]) (res2 := (some (.int q10.1), jR0, q10.2)) (by decide +kernel) rfl lk_8_49 mo_Rows_at mv_Rows_at ⟨Nat.le_of_ble_eq_true rfl, Nat.le_of_ble_eq_true rfl⟩ rfl rfl kz_76 (by decide) rfl (Nat.le_of_ble_eq_true rfl) ⟨Nat.le_refl _, Nat.le_refl _⟩ hG (e_Rows_at hG kz_76 hq10) ?_
      obtain ⟨q11, hq11, h⟩ := jbe h
      refine ev_callV (ci := 3) (a := 21) (y2 := y_Rows_open) (o := 8) (idx := 34) (d2 := d_Rows_open) (n := 1) (mc2 := 0) (ms2 := 0) (As := [.int q10.1]) (st := []) (res2 := (some (.int q11.1), jR0, q11.2)) (by decide +kernel) rfl lk_8_34 mo_Rows_open mv_Rows_open ⟨Nat.le_of_ble_eq_true rfl, Nat.le_of_ble_eq_true rfl⟩ rfl rfl kz_21 (by decide) rfl (Nat.le_of_ble_eq_true rfl) ⟨Nat.le_refl _, Nat.le_refl _⟩ hG (e_Rows_open hG kz_21 hq11) ?_
      refine ev_seg (o := 8) (nL := 10) (q := 178) (xs := [(.pop, 1, 0, 0, .null), (.iinc 6 1, 3, 6, 0, .int 1), (.goto (-33), 3, 0, 0, .null)]) (L' := [some (.ref 16), some (.ref 73), none, some (.int x3), some (.int x4), none, some (.int (x6 + 1)), none, none, none]) (st' := []) (w' := q11.2) (g := []) (K := []) (by decide +kernel) rfl rfl rfl rfl jk0 ?_
      refine ev_mask [true, true, false, true, true, false, true, false, false, false] ?_
      exact ih _ _ _ _ _ h
def f_Treaty_adopt_j81 (k40 : Int32 → Int32 → Int32 → Int32 → jW → Option (Int32 × jW)) (x3 : Int32) (x4 : Int32) (x5 : Int32) (x6 : Int32) (x7 : Int32) (s0 : Int32) (w : jW) : Option (Int32 × jW) :=
  Option.bind (f_Rows_open 19 x7 w) fun q14 =>
  Option.bind (f_Rows_at 74 x6 1 q14.2) fun q15 =>
  Option.bind (f_Rows_put 19 q14.1 1 (q15.1 + s0) q15.2) fun q16 =>
  Option.bind (f_Rows_at 74 x6 2 q16) fun q17 =>
  Option.bind (f_Rows_put 19 q14.1 2 (q17.1 + s0) q17.2) fun q18 =>
  Option.bind (f_Rows_at 74 x6 3 q18) fun q19 =>
  Option.bind (f_Rows_put 19 q14.1 3 q19.1 q19.2) fun q20 =>
  k40 x3 (x4 ||| ((1 : Int32) <<< (x7 &&& 31))) x5 (x6 + 1) q20
set_option maxRecDepth 20000 in
theorem t_Treaty_adopt_j81 {l : Launch} {G : jG} (hG : jX G) {k40 : Int32 → Int32 → Int32 → Int32 → jW → Option (Int32 × jW)} (hk40 : ∀ (x3 : Int32) (x4 : Int32) (x5 : Int32) (x6 : Int32) (w : jW) (z : (Int32 × jW)), k40 x3 x4 x5 x6 w = some z → Ev l G (jrm d_Treaty_adopt 0 0) y_Treaty_adopt (some (.int z.1), jR0, z.2) 0 0 0 0 40 [some (.ref 16), some (.ref 73), none, some (.int x3), some (.int x4), some (.int x5), some (.int x6), none, none, none] [] jR0 w) {x3 : Int32} {x4 : Int32} {x5 : Int32} {x6 : Int32} {x7 : Int32} {s0 : Int32} {w : jW} {z : (Int32 × jW)} (h : f_Treaty_adopt_j81 k40 x3 x4 x5 x6 x7 s0 w = some z) : Ev l G (jrm d_Treaty_adopt 0 0) y_Treaty_adopt (some (.int z.1), jR0, z.2) 0 0 0 0 81 [some (.ref 16), some (.ref 73), none, some (.int x3), some (.int x4), some (.int x5), some (.int x6), some (.int x7), none, none] [.int s0] jR0 w := by
  rw [f_Treaty_adopt_j81] at h
  refine ev_seg (o := 8) (nL := 10) (q := 89) (xs := [(.istore 8, 2, 8, 0, .null), (.aload_n 0, 1, 0, 0, .null), (.getfield 20, 3, 8, 1, .ref 3), (.iload 7, 2, 7, 0, .null)]) (L' := [some (.ref 16), some (.ref 73), none, some (.int x3), some (.int x4), some (.int x5), some (.int x6), some (.int x7), some (.int s0), none]) (st' := [.int x7, .ref 19]) (w' := w) (g := []) (K := [(19, 3), (16, 8)]) (by decide +kernel) rfl rfl rfl rfl (jk1 kz_19 (jk1 kz_16 jk0)) ?_
  obtain ⟨q14, hq14, h⟩ := jbe h
  refine ev_callV (ci := 3) (a := 19) (y2 := y_Rows_open) (o := 8) (idx := 34) (d2 := d_Rows_open) (n := 1) (mc2 := 0) (ms2 := 0) (As := [.int x7]) (st := []) (res2 := (some (.int q14.1), jR0, q14.2)) (by decide +kernel) rfl lk_8_34 mo_Rows_open mv_Rows_open ⟨Nat.le_of_ble_eq_true rfl, Nat.le_of_ble_eq_true rfl⟩ rfl rfl kz_19 (by decide) rfl (Nat.le_of_ble_eq_true rfl) ⟨Nat.le_refl _, Nat.le_refl _⟩ hG (e_Rows_open hG kz_19 hq14) ?_
  refine ev_seg (o := 8) (nL := 10) (q := 108) (xs := [(.istore 9, 2, 9, 0, .null), (.aload_n 0, 1, 0, 0, .null), (.getfield 20, 3, 8, 1, .ref 3), (.iload 9, 2, 9, 0, .null), (.iconst 1, 1, 0, 0, .int 1), (.aload_n 1, 1, 1, 0, .null), (.getfield 46, 3, 2, 0, .ref 3), (.iload 6, 2, 6, 0, .null), (.iconst 1, 1, 0, 0, .int 1)]) (L' := [some (.ref 16), some (.ref 73), none, some (.int x3), some (.int x4), some (.int x5), some (.int x6), some (.int x7), some (.int s0), some (.int q14.1)]) (st' := [.int 1, .int x6, .ref 74, .int 1, .int q14.1, .ref 19]) (w' := q14.2) (g := []) (K := [(74, 3), (73, 2), (19, 3), (16, 8)]) (by decide +kernel) rfl rfl rfl rfl (jk1 kz_74 (jk1 kz_73 (jk1 kz_19 (jk1 kz_16 jk0)))) ?_
  obtain ⟨q15, hq15, h⟩ := jbe h
  refine ev_callV (ci := 3) (a := 74) (y2 := y_Rows_at) (o := 8) (idx := 49) (d2 := d_Rows_at) (n := 2) (mc2 := 0) (ms2 := 0) (As := [.int x6, .int 1]) (st := [.int 1, .int q14.1, .ref 19]) (res2 := (some (.int q15.1), jR0, q15.2)) (by decide +kernel) rfl lk_8_49 mo_Rows_at mv_Rows_at ⟨Nat.le_of_ble_eq_true rfl, Nat.le_of_ble_eq_true rfl⟩ rfl rfl kz_74 (by decide) rfl (Nat.le_of_ble_eq_true rfl) ⟨Nat.le_refl _, Nat.le_refl _⟩ hG (e_Rows_at hG kz_74 hq15) ?_
  refine ev_seg (o := 8) (nL := 10) (q := 114) (xs := [(.iload 8, 2, 8, 0, .null), (.iadd, 1, 0, 0, .null)]) (L' := [some (.ref 16), some (.ref 73), none, some (.int x3), some (.int x4), some (.int x5), some (.int x6), some (.int x7), some (.int s0), some (.int q14.1)]) (st' := [.int (q15.1 + s0), .int 1, .int q14.1, .ref 19]) (w' := q15.2) (g := []) (K := []) (by decide +kernel) rfl rfl rfl rfl jk0 ?_
  obtain ⟨q16, hq16, h⟩ := jbe h
  refine ev_callV (ci := 3) (a := 19) (y2 := y_Rows_put) (o := 8) (idx := 42) (d2 := d_Rows_put) (n := 3) (mc2 := 0) (ms2 := 0) (As := [.int q14.1, .int 1, .int (q15.1 + s0)]) (st := []) (res2 := (none, jR0, q16)) (by decide +kernel) rfl lk_8_42 mo_Rows_put mv_Rows_put ⟨Nat.le_of_ble_eq_true rfl, Nat.le_of_ble_eq_true rfl⟩ rfl rfl kz_19 (by decide) rfl (Nat.le_of_ble_eq_true rfl) ⟨Nat.le_refl _, Nat.le_refl _⟩ hG (e_Rows_put hG kz_19 hq16) ?_
  refine ev_seg (o := 8) (nL := 10) (q := 131) (xs := [(.aload_n 0, 1, 0, 0, .null), (.getfield 20, 3, 8, 1, .ref 3), (.iload 9, 2, 9, 0, .null), (.iconst 2, 1, 0, 0, .int 2), (.aload_n 1, 1, 1, 0, .null), (.getfield 46, 3, 2, 0, .ref 3), (.iload 6, 2, 6, 0, .null), (.iconst 2, 1, 0, 0, .int 2)]) (L' := [some (.ref 16), some (.ref 73), none, some (.int x3), some (.int x4), some (.int x5), some (.int x6), some (.int x7), some (.int s0), some (.int q14.1)]) (st' := [.int 2, .int x6, .ref 74, .int 2, .int q14.1, .ref 19]) (w' := q16) (g := []) (K := [(74, 3), (73, 2), (19, 3), (16, 8)]) (by decide +kernel) rfl rfl rfl rfl (jk1 kz_74 (jk1 kz_73 (jk1 kz_19 (jk1 kz_16 jk0)))) ?_
  obtain ⟨q17, hq17, h⟩ := jbe h
  refine ev_callV (ci := 3) (a := 74) (y2 := y_Rows_at) (o := 8) (idx := 49) (d2 := d_Rows_at) (n := 2) (mc2 := 0) (ms2 := 0) (As := [.int x6, .int 2]) (st := [.int 2, .int q14.1, .ref 19]) (res2 := (some (.int q17.1), jR0, q17.2)) (by decide +kernel) rfl lk_8_49 mo_Rows_at mv_Rows_at ⟨Nat.le_of_ble_eq_true rfl, Nat.le_of_ble_eq_true rfl⟩ rfl rfl kz_74 (by decide) rfl (Nat.le_of_ble_eq_true rfl) ⟨Nat.le_refl _, Nat.le_refl _⟩ hG (e_Rows_at hG kz_74 hq17) ?_
  refine ev_seg (o := 8) (nL := 10) (q := 137) (xs := [(.iload 8, 2, 8, 0, .null), (.iadd, 1, 0, 0, .null)]) (L' := [some (.ref 16), some (.ref 73), none, some (.int x3), some (.int x4), some (.int x5), some (.int x6), some (.int x7), some (.int s0), some (.int q14.1)]) (st' := [.int (q17.1 + s0), .int 2, .int q14.1, .ref 19]) (w' := q17.2) (g := []) (K := []) (by decide +kernel) rfl rfl rfl rfl jk0 ?_
  obtain ⟨q18, hq18, h⟩ := jbe h
  refine ev_callV (ci := 3) (a := 19) (y2 := y_Rows_put) (o := 8) (idx := 42) (d2 := d_Rows_put) (n := 3) (mc2 := 0) (ms2 := 0) (As := [.int q14.1, .int 2, .int (q17.1 + s0)]) (st := []) (res2 := (none, jR0, q18)) (by decide +kernel) rfl lk_8_42 mo_Rows_put mv_Rows_put ⟨Nat.le_of_ble_eq_true rfl, Nat.le_of_ble_eq_true rfl⟩ rfl rfl kz_19 (by decide) rfl (Nat.le_of_ble_eq_true rfl) ⟨Nat.le_refl _, Nat.le_refl _⟩ hG (e_Rows_put hG kz_19 hq18) ?_
  refine ev_seg (o := 8) (nL := 10) (q := 154) (xs := [(.aload_n 0, 1, 0, 0, .null), (.getfield 20, 3, 8, 1, .ref 3), (.iload 9, 2, 9, 0, .null), (.iconst 3, 1, 0, 0, .int 3), (.aload_n 1, 1, 1, 0, .null), (.getfield 46, 3, 2, 0, .ref 3), (.iload 6, 2, 6, 0, .null), (.iconst 3, 1, 0, 0, .int 3)]) (L' := [some (.ref 16), some (.ref 73), none, some (.int x3), some (.int x4), some (.int x5), some (.int x6), some (.int x7), some (.int s0), some (.int q14.1)]) (st' := [.int 3, .int x6, .ref 74, .int 3, .int q14.1, .ref 19]) (w' := q18) (g := []) (K := [(74, 3), (73, 2), (19, 3), (16, 8)]) (by decide +kernel) rfl rfl rfl rfl (jk1 kz_74 (jk1 kz_73 (jk1 kz_19 (jk1 kz_16 jk0)))) ?_
  obtain ⟨q19, hq19, h⟩ := jbe h
  refine ev_callV (ci := 3) (a := 74) (y2 := y_Rows_at) (o := 8) (idx := 49) (d2 := d_Rows_at) (n := 2) (mc2 := 0) (ms2 := 0) (As := [.int x6, .int 3]) (st := [.int 3, .int q14.1, .ref 19]) (res2 := (some (.int q19.1), jR0, q19.2)) (by decide +kernel) rfl lk_8_49 mo_Rows_at mv_Rows_at ⟨Nat.le_of_ble_eq_true rfl, Nat.le_of_ble_eq_true rfl⟩ rfl rfl kz_74 (by decide) rfl (Nat.le_of_ble_eq_true rfl) ⟨Nat.le_refl _, Nat.le_refl _⟩ hG (e_Rows_at hG kz_74 hq19) ?_
  obtain ⟨q20, hq20, h⟩ := jbe h
  refine ev_callV (ci := 3) (a := 19) (y2 := y_Rows_put) (o := 8) (idx := 42) (d2 := d_Rows_put) (n := 3) (mc2 := 0) (ms2 := 0) (As := [.int q14.1, .int 3, .int q19.1]) (st := []) (res2 := (none, jR0, q20)) (by decide +kernel) rfl lk_8_42 mo_Rows_put mv_Rows_put ⟨Nat.le_of_ble_eq_true rfl, Nat.le_of_ble_eq_true rfl⟩ rfl rfl kz_19 (by decide) rfl (Nat.le_of_ble_eq_true rfl) ⟨Nat.le_refl _, Nat.le_refl _⟩ hG (e_Rows_put hG kz_19 hq20) ?_
  refine ev_seg (o := 8) (nL := 10) (q := 40) (xs := [(.iload 4, 2, 4, 0, .null), (.iconst 1, 1, 0, 0, .int 1), (.iload 7, 2, 7, 0, .null), (.ishl, 1, 0, 0, .null), (.ior, 1, 0, 0, .null), (.istore 4, 2, 4, 0, .null), (.iinc 6 1, 3, 6, 0, .int 1), (.goto (-132), 3, 0, 0, .null)]) (L' := [some (.ref 16), some (.ref 73), none, some (.int x3), some (.int (x4 ||| ((1 : Int32) <<< (x7 &&& 31)))), some (.int x5), some (.int (x6 + 1)), some (.int x7), some (.int s0), some (.int q14.1)]) (st' := []) (w' := q20) (g := []) (K := []) (by decide +kernel) rfl rfl rfl rfl jk0 ?_
  refine ev_mask [true, true, false, true, true, true, true, false, false, false] ?_
  exact hk40 _ _ _ _ _ _ h
def f_Treaty_adopt_j75 (k40 : Int32 → Int32 → Int32 → Int32 → jW → Option (Int32 × jW)) (x3 : Int32) (x4 : Int32) (x5 : Int32) (x6 : Int32) (x7 : Int32) (w : jW) : Option (Int32 × jW) :=
  f_Treaty_adopt_j81 k40 x3 x4 x5 x6 x7 x5 w
set_option maxRecDepth 20000 in
theorem t_Treaty_adopt_j75 {l : Launch} {G : jG} (hG : jX G) {k40 : Int32 → Int32 → Int32 → Int32 → jW → Option (Int32 × jW)} (hk40 : ∀ (x3 : Int32) (x4 : Int32) (x5 : Int32) (x6 : Int32) (w : jW) (z : (Int32 × jW)), k40 x3 x4 x5 x6 w = some z → Ev l G (jrm d_Treaty_adopt 0 0) y_Treaty_adopt (some (.int z.1), jR0, z.2) 0 0 0 0 40 [some (.ref 16), some (.ref 73), none, some (.int x3), some (.int x4), some (.int x5), some (.int x6), none, none, none] [] jR0 w) {x3 : Int32} {x4 : Int32} {x5 : Int32} {x6 : Int32} {x7 : Int32} {w : jW} {z : (Int32 × jW)} (h : f_Treaty_adopt_j75 k40 x3 x4 x5 x6 x7 w = some z) : Ev l G (jrm d_Treaty_adopt 0 0) y_Treaty_adopt (some (.int z.1), jR0, z.2) 0 0 0 0 75 [some (.ref 16), some (.ref 73), none, some (.int x3), some (.int x4), some (.int x5), some (.int x6), some (.int x7), none, none] [] jR0 w := by
  rw [f_Treaty_adopt_j75] at h
  refine ev_seg (o := 8) (nL := 10) (q := 81) (xs := [(.iload 5, 2, 5, 0, .null), (.goto 4, 3, 0, 0, .null)]) (L' := [some (.ref 16), some (.ref 73), none, some (.int x3), some (.int x4), some (.int x5), some (.int x6), some (.int x7), none, none]) (st' := [.int x5]) (w' := w) (g := []) (K := []) (by decide +kernel) rfl rfl rfl rfl jk0 ?_
  refine ev_mask [true, true, false, true, true, true, true, true, false, false] ?_
  exact t_Treaty_adopt_j81 hG hk40 h
def f_Treaty_adopt_h40 : Nat → Int32 → Int32 → Int32 → Int32 → jW → Option (Int32 × jW)
  | 0, _, _, _, _, _ => none
  | n + 1, x3, x4, x5, x6, w =>
  Option.bind (f_Rows_count 74 w) fun q5 =>
  if x6 < q5.1 then
    Option.bind (f_Rows_at 74 x6 0 q5.2) fun q13 =>
    if q13.1 = 0 then
      f_Treaty_adopt_j75 (f_Treaty_adopt_h40 n) x3 x4 x5 x6 q13.1 q13.2
    else
      if q13.1 = 4 then
        f_Treaty_adopt_j75 (f_Treaty_adopt_h40 n) x3 x4 x5 x6 q13.1 q13.2
      else
        f_Treaty_adopt_j81 (f_Treaty_adopt_h40 n) x3 x4 x5 x6 q13.1 0 q13.2
  else
    f_Treaty_adopt_h178 jfu x3 x4 0 q5.2
set_option maxRecDepth 20000 in
theorem t_Treaty_adopt_h40 {l : Launch} {G : jG} (hG : jX G) : ∀ (n : Nat) (x3 : Int32) (x4 : Int32) (x5 : Int32) (x6 : Int32) (w : jW) (z : (Int32 × jW)), f_Treaty_adopt_h40 n x3 x4 x5 x6 w = some z → Ev l G (jrm d_Treaty_adopt 0 0) y_Treaty_adopt (some (.int z.1), jR0, z.2) 0 0 0 0 40 [some (.ref 16), some (.ref 73), none, some (.int x3), some (.int x4), some (.int x5), some (.int x6), none, none, none] [] jR0 w := by
  intro n
  induction n with
  | zero => intro x3 x4 x5 x6 w z h; simp only [f_Treaty_adopt_h40] at h; cases h
  | succ n ih =>
    intro x3 x4 x5 x6 w z h
    rw [f_Treaty_adopt_h40] at h
    refine ev_seg (o := 8) (nL := 10) (q := 46) (xs := [(.iload 6, 2, 6, 0, .null), (.aload_n 1, 1, 1, 0, .null), (.getfield 46, 3, 2, 0, .ref 3)]) (L' := [some (.ref 16), some (.ref 73), none, some (.int x3), some (.int x4), some (.int x5), some (.int x6), none, none, none]) (st' := [.ref 74, .int x6]) (w' := w) (g := []) (K := [(74, 3), (73, 2)]) (by decide +kernel) rfl rfl rfl rfl (jk1 kz_74 (jk1 kz_73 jk0)) ?_
    obtain ⟨q5, hq5, h⟩ := jbe h
    refine ev_callV (ci := 3) (a := 74) (y2 := y_Rows_count) (o := 8) (idx := 38) (d2 := d_Rows_count) (n := 0) (mc2 := 0) (ms2 := 0) (As := []) (st := [.int x6]) (res2 := (some (.int q5.1), jR0, q5.2)) (by decide +kernel) rfl lk_8_38 mo_Rows_count mv_Rows_count ⟨Nat.le_of_ble_eq_true rfl, Nat.le_of_ble_eq_true rfl⟩ rfl rfl kz_74 (by decide) rfl (Nat.le_of_ble_eq_true rfl) ⟨Nat.le_refl _, Nat.le_refl _⟩ hG (e_Rows_count hG kz_74 hq5) ?_
    refine ev_icmp_ge (off := 126) (tgt := 175) (by decide +kernel) (by decide) (fun c23 => ?_) (fun c23 => ?_)
    · replace h := jneg c23 h
      refine ev_seg (o := 8) (nL := 10) (q := 178) (xs := [(.iconst 0, 1, 0, 0, .int 0), (.istore 6, 2, 6, 0, .null)]) (L' := [some (.ref 16), some (.ref 73), none, some (.int x3), some (.int x4), some (.int x5), some (.int 0), none, none, none]) (st' := []) (w' := q5.2) (g := []) (K := []) (by decide +kernel) rfl rfl rfl rfl jk0 ?_
      refine ev_mask [true, true, false, true, true, false, true, false, false, false] ?_
      exact t_Treaty_adopt_h178 hG jfu _ _ _ _ _ h
    · replace h := jpos c23 h
      refine ev_seg (o := 8) (nL := 10) (q := 59) (xs := [(.aload_n 1, 1, 1, 0, .null), (.getfield 46, 3, 2, 0, .ref 3), (.iload 6, 2, 6, 0, .null), (.iconst 0, 1, 0, 0, .int 0)]) (L' := [some (.ref 16), some (.ref 73), none, some (.int x3), some (.int x4), some (.int x5), some (.int x6), none, none, none]) (st' := [.int 0, .int x6, .ref 74]) (w' := q5.2) (g := []) (K := [(74, 3), (73, 2)]) (by decide +kernel) rfl rfl rfl rfl (jk1 kz_74 (jk1 kz_73 jk0)) ?_
      obtain ⟨q13, hq13, h⟩ := jbe h
      refine ev_callV (ci := 3) (a := 74) (y2 := y_Rows_at) (o := 8) (idx := 49) (d2 := d_Rows_at) (n := 2) (mc2 := 0) (ms2 := 0) (As := [.int x6, .int 0]) (st := []) (res2 := (some (.int q13.1), jR0, q13.2)) (by decide +kernel) rfl lk_8_49 mo_Rows_at mv_Rows_at ⟨Nat.le_of_ble_eq_true rfl, Nat.le_of_ble_eq_true rfl⟩ rfl rfl kz_74 (by decide) rfl (Nat.le_of_ble_eq_true rfl) ⟨Nat.le_refl _, Nat.le_refl _⟩ hG (e_Rows_at hG kz_74 hq13) ?_
      refine ev_seg (o := 8) (nL := 10) (q := 66) (xs := [(.istore 7, 2, 7, 0, .null), (.iload 7, 2, 7, 0, .null)]) (L' := [some (.ref 16), some (.ref 73), none, some (.int x3), some (.int x4), some (.int x5), some (.int x6), some (.int q13.1), none, none]) (st' := [.int q13.1]) (w' := q13.2) (g := []) (K := []) (by decide +kernel) rfl rfl rfl rfl jk0 ?_
      refine ev_if_eq (off := 9) (tgt := 75) (by decide +kernel) (by decide) (fun c22 => ?_) (fun c22 => ?_)
      · replace h := jpos c22 h
        refine ev_mask [true, true, false, true, true, true, true, true, false, false] ?_
        exact t_Treaty_adopt_j75 hG ih h
      · replace h := jneg c22 h
        refine ev_seg (o := 8) (nL := 10) (q := 72) (xs := [(.iload 7, 2, 7, 0, .null), (.iconst 4, 1, 0, 0, .int 4)]) (L' := [some (.ref 16), some (.ref 73), none, some (.int x3), some (.int x4), some (.int x5), some (.int x6), some (.int q13.1), none, none]) (st' := [.int 4, .int q13.1]) (w' := q13.2) (g := []) (K := []) (by decide +kernel) rfl rfl rfl rfl jk0 ?_
        refine ev_icmp_ne (off := 8) (tgt := 80) (by decide +kernel) (by decide) (fun c21 => ?_) (fun c21 => ?_)
        · replace h := jneg c21 h
          refine ev_seg (o := 8) (nL := 10) (q := 81) (xs := [(.iconst 0, 1, 0, 0, .int 0)]) (L' := [some (.ref 16), some (.ref 73), none, some (.int x3), some (.int x4), some (.int x5), some (.int x6), some (.int q13.1), none, none]) (st' := [.int 0]) (w' := q13.2) (g := []) (K := []) (by decide +kernel) rfl rfl rfl rfl jk0 ?_
          refine ev_mask [true, true, false, true, true, true, true, true, false, false] ?_
          exact t_Treaty_adopt_j81 hG ih h
        · replace h := jpos c21 h
          refine ev_mask [true, true, false, true, true, true, true, true, false, false] ?_
          exact t_Treaty_adopt_j75 hG ih h
def f_Treaty_adopt (x2 : Int32) (w : jW) : Option (Int32 × jW) :=
  Option.bind (f_Rows_open 17 x2 w) fun q1 =>
  Option.bind (f_Rows_count 21 q1.2) fun q2 =>
  Option.bind (f_Rows_count 19 q2.2) fun q3 =>
  Option.bind (f_Rows_put 17 q1.1 2 q3.1 q3.2) fun q4 =>
  f_Treaty_adopt_h40 jfu q1.1 0 q2.1 0 q4
set_option maxRecDepth 20000 in
theorem e_Treaty_adopt {l : Launch} {G : jG} (hG : jX G) {x2 : Int32} {w : jW} {z : (Int32 × jW)} (h : f_Treaty_adopt x2 w = some z) : Ct l G y_Treaty_adopt d_Treaty_adopt 0 0 [.ref 16, .ref 73, .int x2] jR0 w (some (.int z.1), jR0, z.2) := by
  rw [f_Treaty_adopt] at h
  refine Ct.of (L := [some (.ref 16), some (.ref 73), some (.int x2), none, none, none, none, none, none, none]) (by decide) (Nat.le_of_ble_eq_true rfl) rfl ?_
  refine ev_seg (o := 8) (nL := 10) (q := 5) (xs := [(.aload_n 0, 1, 0, 0, .null), (.getfield 14, 3, 8, 0, .ref 3), (.iload_n 2, 1, 2, 0, .null)]) (L' := [some (.ref 16), some (.ref 73), some (.int x2), none, none, none, none, none, none, none]) (st' := [.int x2, .ref 17]) (w' := w) (g := []) (K := [(17, 3), (16, 8)]) (by decide +kernel) rfl rfl rfl rfl (jk1 kz_17 (jk1 kz_16 jk0)) ?_
  obtain ⟨q1, hq1, h⟩ := jbe h
  refine ev_callV (ci := 3) (a := 17) (y2 := y_Rows_open) (o := 8) (idx := 34) (d2 := d_Rows_open) (n := 1) (mc2 := 0) (ms2 := 0) (As := [.int x2]) (st := []) (res2 := (some (.int q1.1), jR0, q1.2)) (by decide +kernel) rfl lk_8_34 mo_Rows_open mv_Rows_open ⟨Nat.le_of_ble_eq_true rfl, Nat.le_of_ble_eq_true rfl⟩ rfl rfl kz_17 (by decide) rfl (Nat.le_of_ble_eq_true rfl) ⟨Nat.le_refl _, Nat.le_refl _⟩ hG (e_Rows_open hG kz_17 hq1) ?_
  refine ev_seg (o := 8) (nL := 10) (q := 16) (xs := [(.istore_n 3, 1, 3, 0, .null), (.iconst 0, 1, 0, 0, .int 0), (.istore 4, 2, 4, 0, .null), (.aload_n 0, 1, 0, 0, .null), (.getfield 23, 3, 8, 2, .ref 3)]) (L' := [some (.ref 16), some (.ref 73), some (.int x2), some (.int q1.1), some (.int 0), none, none, none, none, none]) (st' := [.ref 21]) (w' := q1.2) (g := []) (K := [(21, 3), (16, 8)]) (by decide +kernel) rfl rfl rfl rfl (jk1 kz_21 (jk1 kz_16 jk0)) ?_
  obtain ⟨q2, hq2, h⟩ := jbe h
  refine ev_callV (ci := 3) (a := 21) (y2 := y_Rows_count) (o := 8) (idx := 38) (d2 := d_Rows_count) (n := 0) (mc2 := 0) (ms2 := 0) (As := []) (st := []) (res2 := (some (.int q2.1), jR0, q2.2)) (by decide +kernel) rfl lk_8_38 mo_Rows_count mv_Rows_count ⟨Nat.le_of_ble_eq_true rfl, Nat.le_of_ble_eq_true rfl⟩ rfl rfl kz_21 (by decide) rfl (Nat.le_of_ble_eq_true rfl) ⟨Nat.le_refl _, Nat.le_refl _⟩ hG (e_Rows_count hG kz_21 hq2) ?_
  refine ev_seg (o := 8) (nL := 10) (q := 31) (xs := [(.istore 5, 2, 5, 0, .null), (.aload_n 0, 1, 0, 0, .null), (.getfield 14, 3, 8, 0, .ref 3), (.iload_n 3, 1, 3, 0, .null), (.iconst 2, 1, 0, 0, .int 2), (.aload_n 0, 1, 0, 0, .null), (.getfield 20, 3, 8, 1, .ref 3)]) (L' := [some (.ref 16), some (.ref 73), some (.int x2), some (.int q1.1), some (.int 0), some (.int q2.1), none, none, none, none]) (st' := [.ref 19, .int 2, .int q1.1, .ref 17]) (w' := q2.2) (g := []) (K := [(19, 3), (16, 8), (17, 3), (16, 8)]) (by decide +kernel) rfl rfl rfl rfl (jk1 kz_19 (jk1 kz_16 (jk1 kz_17 (jk1 kz_16 jk0)))) ?_
  obtain ⟨q3, hq3, h⟩ := jbe h
  refine ev_callV (ci := 3) (a := 19) (y2 := y_Rows_count) (o := 8) (idx := 38) (d2 := d_Rows_count) (n := 0) (mc2 := 0) (ms2 := 0) (As := []) (st := [.int 2, .int q1.1, .ref 17]) (res2 := (some (.int q3.1), jR0, q3.2)) (by decide +kernel) rfl lk_8_38 mo_Rows_count mv_Rows_count ⟨Nat.le_of_ble_eq_true rfl, Nat.le_of_ble_eq_true rfl⟩ rfl rfl kz_19 (by decide) rfl (Nat.le_of_ble_eq_true rfl) ⟨Nat.le_refl _, Nat.le_refl _⟩ hG (e_Rows_count hG kz_19 hq3) ?_
  obtain ⟨q4, hq4, h⟩ := jbe h
  refine ev_callV (ci := 3) (a := 17) (y2 := y_Rows_put) (o := 8) (idx := 42) (d2 := d_Rows_put) (n := 3) (mc2 := 0) (ms2 := 0) (As := [.int q1.1, .int 2, .int q3.1]) (st := []) (res2 := (none, jR0, q4)) (by decide +kernel) rfl lk_8_42 mo_Rows_put mv_Rows_put ⟨Nat.le_of_ble_eq_true rfl, Nat.le_of_ble_eq_true rfl⟩ rfl rfl kz_17 (by decide) rfl (Nat.le_of_ble_eq_true rfl) ⟨Nat.le_refl _, Nat.le_refl _⟩ hG (e_Rows_put hG kz_17 hq4) ?_
  refine ev_seg (o := 8) (nL := 10) (q := 40) (xs := [(.iconst 0, 1, 0, 0, .int 0), (.istore 6, 2, 6, 0, .null)]) (L' := [some (.ref 16), some (.ref 73), some (.int x2), some (.int q1.1), some (.int 0), some (.int q2.1), some (.int 0), none, none, none]) (st' := []) (w' := q4) (g := []) (K := []) (by decide +kernel) rfl rfl rfl rfl jk0 ?_
  refine ev_mask [true, true, false, true, true, true, true, false, false, false] ?_
  exact t_Treaty_adopt_h40 hG jfu _ _ _ _ _ _ h
def f_Count_fault (x1 : Int32) (w : jW) : Option (Int32 × jW) :=
  if (w.1 73 2) = 0 then
    some ((-1), w)
  else
    if x1 = 0 then
      some ((w.1 73 3), w)
    else
    if x1 = 1 then
      some ((w.1 73 4), w)
    else
      some ((-1), w)
set_option maxRecDepth 20000 in
theorem e_Count_fault {l : Launch} {G : jG} (hG : jX G) {x1 : Int32} {w : jW} {z : (Int32 × jW)} (h : f_Count_fault x1 w = some z) : Ct l G y_Count_fault d_Count_fault 0 0 [.ref 2, .int x1] jR0 w (some (.int z.1), jR0, z.2) := by
  rw [f_Count_fault] at h
  refine Ct.of (L := [some (.ref 2), some (.int x1)]) (by decide) (Nat.le_of_ble_eq_true rfl) rfl ?_
  refine ev_seg (o := 9) (nL := 2) (q := 7) (xs := [(.aload_n 0, 1, 0, 0, .null), (.getfield 22, 3, 9, 2, .ref 2), (.getfield 183, 3, 2, 2, .int 0)]) (L' := [some (.ref 2), some (.int x1)]) (st' := [.int (w.1 73 2)]) (w' := w) (g := []) (K := [(73, 2), (73, 2), (2, 9)]) (by decide +kernel) rfl rfl rfl rfl (jk1 kz_73 (jk1 kz_73 (jk1 kz_2 jk0))) ?_
  refine ev_if_ne (off := 5) (tgt := 12) (by decide +kernel) (by decide) (fun c3 => ?_) (fun c3 => ?_)
  · replace h := jneg c3 h
    refine ev_seg (o := 9) (nL := 2) (q := 13) (xs := [(.iload_n 1, 1, 1, 0, .null)]) (L' := [some (.ref 2), some (.int x1)]) (st' := [.int x1]) (w' := w) (g := []) (K := []) (by decide +kernel) rfl rfl rfl rfl jk0 ?_
    by_cases c1 : x1 = 0
    · replace h := jpos c1 h
      refine ev_lookup (dflt := 43) (ps := #[(0, 27), (1, 35)]) (len := 27) (off := 27) (tgt := 40) (by decide +kernel) (by decide) (by rw [c1]; decide) (by decide) ?_
      refine ev_seg (o := 9) (nL := 2) (q := 47) (xs := [(.aload_n 0, 1, 0, 0, .null), (.getfield 22, 3, 9, 2, .ref 2), (.getfield 187, 3, 2, 3, .int 0)]) (L' := [some (.ref 2), some (.int x1)]) (st' := [.int (w.1 73 3)]) (w' := w) (g := []) (K := [(73, 2), (73, 2), (2, 9)]) (by decide +kernel) rfl rfl rfl rfl (jk1 kz_73 (jk1 kz_73 (jk1 kz_2 jk0))) ?_
      cases h
      exact ev_iret (by decide +kernel) rfl rfl rfl rfl
    · replace h := jneg c1 h
      by_cases c2 : x1 = 1
      · replace h := jpos c2 h
        refine ev_lookup (dflt := 43) (ps := #[(0, 27), (1, 35)]) (len := 27) (off := 35) (tgt := 48) (by decide +kernel) (by decide) (by rw [c2]; decide) (by decide) ?_
        refine ev_seg (o := 9) (nL := 2) (q := 55) (xs := [(.aload_n 0, 1, 0, 0, .null), (.getfield 22, 3, 9, 2, .ref 2), (.getfield 190, 3, 2, 4, .int 0)]) (L' := [some (.ref 2), some (.int x1)]) (st' := [.int (w.1 73 4)]) (w' := w) (g := []) (K := [(73, 2), (73, 2), (2, 9)]) (by decide +kernel) rfl rfl rfl rfl (jk1 kz_73 (jk1 kz_73 (jk1 kz_2 jk0))) ?_
        cases h
        exact ev_iret (by decide +kernel) rfl rfl rfl rfl
      · replace h := jneg c2 h
        have ec1 := lv_neT (a := 0) c1 rfl
        have ec2 := lv_neT (a := 1) c2 rfl
        refine ev_lookup (dflt := 43) (ps := #[(0, 27), (1, 35)]) (len := 27) (off := 43) (tgt := 56) (by decide +kernel) (by decide) (by simp [Op.lookupswitch.offset_cons, Op.lookupswitch.offset, Ne.symm ec1, Ne.symm ec2]) (by decide) ?_
        refine ev_seg (o := 9) (nL := 2) (q := 57) (xs := [(.iconst (-1), 1, 0, 0, .int (-1))]) (L' := [some (.ref 2), some (.int x1)]) (st' := [.int (-1)]) (w' := w) (g := []) (K := []) (by decide +kernel) rfl rfl rfl rfl jk0 ?_
        cases h
        exact ev_iret (by decide +kernel) rfl rfl rfl rfl
  · replace h := jpos c3 h
    refine ev_seg (o := 9) (nL := 2) (q := 11) (xs := [(.iconst (-1), 1, 0, 0, .int (-1))]) (L' := [some (.ref 2), some (.int x1)]) (st' := [.int (-1)]) (w' := w) (g := []) (K := []) (by decide +kernel) rfl rfl rfl rfl jk0 ?_
    cases h
    exact ev_iret (by decide +kernel) rfl rfl rfl rfl
def f_Count_says (x1 : Int32) (x2 : Int32) (w : jW) : Option (Int32 × jW) :=
  Option.bind (f_State_isDay x1 w) fun q1 =>
  if q1.1 = 0 then
    some ((-1), q1.2)
  else
    Option.bind (f_Treaty_tells x2 x1 q1.2) fun q2 =>
    some (q2.1, q2.2)
set_option maxRecDepth 20000 in
theorem e_Count_says {l : Launch} {G : jG} (hG : jX G) {x1 : Int32} {x2 : Int32} {w : jW} {z : (Int32 × jW)} (h : f_Count_says x1 x2 w = some z) : Ct l G y_Count_says d_Count_says 0 0 [.ref 2, .int x1, .int x2] jR0 w (some (.int z.1), jR0, z.2) := by
  rw [f_Count_says] at h
  refine Ct.of (L := [some (.ref 2), some (.int x1), some (.int x2)]) (by decide) (Nat.le_of_ble_eq_true rfl) rfl ?_
  refine ev_seg (o := 9) (nL := 3) (q := 1) (xs := [(.iload_n 1, 1, 1, 0, .null)]) (L' := [some (.ref 2), some (.int x1), some (.int x2)]) (st' := [.int x1]) (w' := w) (g := []) (K := []) (by decide +kernel) rfl rfl rfl rfl jk0 ?_
  obtain ⟨q1, hq1, h⟩ := jbe h
  refine ev_callS (y2 := y_State_isDay) (o := 9) (idx := 151) (d2 := d_State_isDay) (n := 1) (mc2 := 0) (ms2 := 0) (As := [.int x1]) (st := []) (res2 := (some (.int q1.1), jR0, q1.2)) (by decide +kernel) rfl lk_9_151 mo_State_isDay ms_State_isDay ⟨Nat.le_of_ble_eq_true rfl, Nat.le_of_ble_eq_true rfl⟩ rfl rfl (Nat.le_of_ble_eq_true rfl) ⟨Nat.le_refl _, Nat.le_refl _⟩ hG (e_State_isDay hG hq1) ?_
  refine ev_if_eq (off := 18) (tgt := 22) (by decide +kernel) (by decide) (fun c3 => ?_) (fun c3 => ?_)
  · replace h := jpos c3 h
    refine ev_seg (o := 9) (nL := 3) (q := 23) (xs := [(.iconst (-1), 1, 0, 0, .int (-1))]) (L' := [some (.ref 2), some (.int x1), some (.int x2)]) (st' := [.int (-1)]) (w' := q1.2) (g := []) (K := []) (by decide +kernel) rfl rfl rfl rfl jk0 ?_
    cases h
    exact ev_iret (by decide +kernel) rfl rfl rfl rfl
  · replace h := jneg c3 h
    refine ev_seg (o := 9) (nL := 3) (q := 16) (xs := [(.aload_n 0, 1, 0, 0, .null), (.getfield 12, 3, 9, 0, .ref 6), (.getfield 132, 3, 6, 11, .ref 8), (.iload_n 2, 1, 2, 0, .null), (.iload_n 1, 1, 1, 0, .null)]) (L' := [some (.ref 2), some (.int x1), some (.int x2)]) (st' := [.int x1, .int x2, .ref 16]) (w' := q1.2) (g := []) (K := [(16, 8), (3, 6), (3, 6), (2, 9)]) (by decide +kernel) rfl rfl rfl rfl (jk1 kz_16 (jk1 kz_3 (jk1 kz_3 (jk1 kz_2 jk0)))) ?_
    obtain ⟨q2, hq2, h⟩ := jbe h
    refine ev_callV (ci := 8) (a := 16) (y2 := y_Treaty_tells) (o := 9) (idx := 136) (d2 := d_Treaty_tells) (n := 2) (mc2 := 0) (ms2 := 0) (As := [.int x2, .int x1]) (st := []) (res2 := (some (.int q2.1), jR0, q2.2)) (by decide +kernel) rfl lk_9_136 mo_Treaty_tells mv_Treaty_tells ⟨Nat.le_of_ble_eq_true rfl, Nat.le_of_ble_eq_true rfl⟩ rfl rfl kz_16 (by decide) rfl (Nat.le_of_ble_eq_true rfl) ⟨Nat.le_refl _, Nat.le_refl _⟩ hG (e_Treaty_tells hG hq2) ?_
    refine ev_seg (o := 9) (nL := 3) (q := 23) (xs := [(.goto 4, 3, 0, 0, .null)]) (L' := [some (.ref 2), some (.int x1), some (.int x2)]) (st' := [.int q2.1]) (w' := q2.2) (g := []) (K := []) (by decide +kernel) rfl rfl rfl rfl jk0 ?_
    cases h
    exact ev_iret (by decide +kernel) rfl rfl rfl rfl
def f_Treaty_see (x1 : Int32) (x2 : Int32) (w : jW) : Option jW :=
  if (x1 - 13) < 0 then
    some w
  else
    if (x1 - 13) < (Int32.ofNat 5) then
      if jal [jin (x1 - 13) 5] = true then
      jlw ((jup w.1 23 (Int32.toNatClampNeg (x1 - 13)) x2), w.2) fun w2 =>
      some w2
      else none
    else
      some w
set_option maxRecDepth 20000 in
theorem e_Treaty_see {l : Launch} {G : jG} (hG : jX G) {x1 : Int32} {x2 : Int32} {w : jW} {z : jW} (h : f_Treaty_see x1 x2 w = some z) : Ct l G y_Treaty_see d_Treaty_see 0 0 [.ref 16, .int x1, .int x2] jR0 w (none, jR0, z) := by
  rw [f_Treaty_see] at h
  refine Ct.of (L := [some (.ref 16), some (.int x1), some (.int x2), none]) (by decide) (Nat.le_of_ble_eq_true rfl) rfl ?_
  refine ev_seg (o := 8) (nL := 4) (q := 6) (xs := [(.iload_n 1, 1, 1, 0, .null), (.bipush 13, 2, 0, 0, .int 13), (.isub, 1, 0, 0, .null), (.istore_n 3, 1, 3, 0, .null), (.iload_n 3, 1, 3, 0, .null)]) (L' := [some (.ref 16), some (.int x1), some (.int x2), some (.int (x1 - 13))]) (st' := [.int (x1 - 13)]) (w' := w) (g := []) (K := []) (by decide +kernel) rfl rfl rfl rfl jk0 ?_
  refine ev_if_lt (off := 19) (tgt := 25) (by decide +kernel) (by decide) (fun c4 => ?_) (fun c4 => ?_)
  · replace h := jpos c4 h
    cases h
    exact ev_vret (by decide +kernel) rfl rfl rfl rfl
  · replace h := jneg c4 h
    refine ev_seg (o := 8) (nL := 4) (q := 15) (xs := [(.iload_n 3, 1, 3, 0, .null), (.aload_n 0, 1, 0, 0, .null), (.getfield 26, 3, 8, 3, .ref 20), (.arraylength, 1, 20, 0, .null)]) (L' := [some (.ref 16), some (.int x1), some (.int x2), some (.int (x1 - 13))]) (st' := [.int (Int32.ofNat 5), .int (x1 - 13)]) (w' := w) (g := []) (K := [(23, 20), (23, 20), (16, 8)]) (by decide +kernel) rfl rfl rfl rfl (jk1 kz_23 (jk1 kz_23 (jk1 kz_16 jk0))) ?_
    refine ev_icmp_ge (off := 10) (tgt := 25) (by decide +kernel) (by decide) (fun c3 => ?_) (fun c3 => ?_)
    · replace h := jneg c3 h
      cases h
      exact ev_vret (by decide +kernel) rfl rfl rfl rfl
    · replace h := jpos c3 h
      obtain ⟨hg1, h⟩ := jgd h
      refine ev_seg (o := 8) (nL := 4) (q := 25) (xs := [(.aload_n 0, 1, 0, 0, .null), (.getfield 26, 3, 8, 3, .ref 20), (.iload_n 3, 1, 3, 0, .null), (.iload_n 2, 1, 2, 0, .null), (.iastore, 1, 0, 0, .null)]) (L' := [some (.ref 16), some (.int x1), some (.int x2), some (.int (x1 - 13))]) (st' := []) (w' := ((jup w.1 23 (Int32.toNatClampNeg (x1 - 13)) x2), w.2)) (g := [jin (x1 - 13) 5]) (K := [(23, 20), (23, 20), (16, 8)]) (by decide +kernel) rfl rfl rfl hg1 (jk1 kz_23 (jk1 kz_23 (jk1 kz_16 jk0))) ?_
      refine jlw_c (P := fun w2 => Ev l G (jrm d_Treaty_see 0 0) y_Treaty_see (none, jR0, z) 0 0 0 0 25 [some (.ref 16), some (.int x1), some (.int x2), some (.int (x1 - 13))] [] jR0 w2) h fun w2 h => ?_
      cases h
      exact ev_vret (by decide +kernel) rfl rfl rfl rfl
def f_Treaty_look (a1 : Nat) (x2 : Int32) (x3 : Int32) (w : jW) : Option jW :=
  Option.bind (f_Rows_at a1 x2 0 w) fun q1 =>
  Option.bind (f_Treaty_see 13 q1.1 q1.2) fun q2 =>
  Option.bind (f_Rows_at a1 x2 1 q2) fun q3 =>
  Option.bind (f_Treaty_see 14 q3.1 q3.2) fun q4 =>
  Option.bind (f_Rows_at a1 x2 2 q4) fun q5 =>
  Option.bind (f_Treaty_see 15 q5.1 q5.2) fun q6 =>
  Option.bind (f_Treaty_see 16 x3 q6) fun q7 =>
  Option.bind (f_Rows_at a1 x2 3 q7) fun q8 =>
  Option.bind (f_Treaty_see 17 q8.1 q8.2) fun q9 =>
  some q9
set_option maxRecDepth 20000 in
theorem e_Treaty_look {l : Launch} {G : jG} (hG : jX G) {a1 : Nat} {x2 : Int32} {x3 : Int32} (h_a1 : jSk jR0 a1 = 3) {w : jW} {z : jW} (h : f_Treaty_look a1 x2 x3 w = some z) : Ct l G y_Treaty_look d_Treaty_look 0 0 [.ref 16, .ref a1, .int x2, .int x3] jR0 w (none, jR0, z) := by
  rw [f_Treaty_look] at h
  refine Ct.of (L := [some (.ref 16), some (.ref a1), some (.int x2), some (.int x3)]) (by decide) (Nat.le_of_ble_eq_true rfl) rfl ?_
  refine ev_seg (o := 8) (nL := 4) (q := 6) (xs := [(.aload_n 0, 1, 0, 0, .null), (.bipush 13, 2, 0, 0, .int 13), (.aload_n 1, 1, 1, 0, .null), (.iload_n 2, 1, 2, 0, .null), (.iconst 0, 1, 0, 0, .int 0)]) (L' := [some (.ref 16), some (.ref a1), some (.int x2), some (.int x3)]) (st' := [.int 0, .int x2, .ref a1, .int 13, .ref 16]) (w' := w) (g := []) (K := []) (by decide +kernel) rfl rfl rfl rfl jk0 ?_
  obtain ⟨q1, hq1, h⟩ := jbe h
  refine ev_callV (ci := 3) (a := a1) (y2 := y_Rows_at) (o := 8) (idx := 49) (d2 := d_Rows_at) (n := 2) (mc2 := 0) (ms2 := 0) (As := [.int x2, .int 0]) (st := [.int 13, .ref 16]) (res2 := (some (.int q1.1), jR0, q1.2)) (by decide +kernel) rfl lk_8_49 mo_Rows_at mv_Rows_at ⟨Nat.le_of_ble_eq_true rfl, Nat.le_of_ble_eq_true rfl⟩ rfl rfl h_a1 (by decide) rfl (Nat.le_of_ble_eq_true rfl) ⟨Nat.le_refl _, Nat.le_refl _⟩ hG (e_Rows_at hG h_a1 hq1) ?_
  obtain ⟨q2, hq2, h⟩ := jbe h
  refine ev_callV (ci := 8) (a := 16) (y2 := y_Treaty_see) (o := 8) (idx := 69) (d2 := d_Treaty_see) (n := 2) (mc2 := 0) (ms2 := 0) (As := [.int 13, .int q1.1]) (st := []) (res2 := (none, jR0, q2)) (by decide +kernel) rfl lk_8_69 mo_Treaty_see mv_Treaty_see ⟨Nat.le_of_ble_eq_true rfl, Nat.le_of_ble_eq_true rfl⟩ rfl rfl kz_16 (by decide) rfl (Nat.le_of_ble_eq_true rfl) ⟨Nat.le_refl _, Nat.le_refl _⟩ hG (e_Treaty_see hG hq2) ?_
  refine ev_seg (o := 8) (nL := 4) (q := 18) (xs := [(.aload_n 0, 1, 0, 0, .null), (.bipush 14, 2, 0, 0, .int 14), (.aload_n 1, 1, 1, 0, .null), (.iload_n 2, 1, 2, 0, .null), (.iconst 1, 1, 0, 0, .int 1)]) (L' := [some (.ref 16), some (.ref a1), some (.int x2), some (.int x3)]) (st' := [.int 1, .int x2, .ref a1, .int 14, .ref 16]) (w' := q2) (g := []) (K := []) (by decide +kernel) rfl rfl rfl rfl jk0 ?_
  obtain ⟨q3, hq3, h⟩ := jbe h
  refine ev_callV (ci := 3) (a := a1) (y2 := y_Rows_at) (o := 8) (idx := 49) (d2 := d_Rows_at) (n := 2) (mc2 := 0) (ms2 := 0) (As := [.int x2, .int 1]) (st := [.int 14, .ref 16]) (res2 := (some (.int q3.1), jR0, q3.2)) (by decide +kernel) rfl lk_8_49 mo_Rows_at mv_Rows_at ⟨Nat.le_of_ble_eq_true rfl, Nat.le_of_ble_eq_true rfl⟩ rfl rfl h_a1 (by decide) rfl (Nat.le_of_ble_eq_true rfl) ⟨Nat.le_refl _, Nat.le_refl _⟩ hG (e_Rows_at hG h_a1 hq3) ?_
  obtain ⟨q4, hq4, h⟩ := jbe h
  refine ev_callV (ci := 8) (a := 16) (y2 := y_Treaty_see) (o := 8) (idx := 69) (d2 := d_Treaty_see) (n := 2) (mc2 := 0) (ms2 := 0) (As := [.int 14, .int q3.1]) (st := []) (res2 := (none, jR0, q4)) (by decide +kernel) rfl lk_8_69 mo_Treaty_see mv_Treaty_see ⟨Nat.le_of_ble_eq_true rfl, Nat.le_of_ble_eq_true rfl⟩ rfl rfl kz_16 (by decide) rfl (Nat.le_of_ble_eq_true rfl) ⟨Nat.le_refl _, Nat.le_refl _⟩ hG (e_Treaty_see hG hq4) ?_
  refine ev_seg (o := 8) (nL := 4) (q := 30) (xs := [(.aload_n 0, 1, 0, 0, .null), (.bipush 15, 2, 0, 0, .int 15), (.aload_n 1, 1, 1, 0, .null), (.iload_n 2, 1, 2, 0, .null), (.iconst 2, 1, 0, 0, .int 2)]) (L' := [some (.ref 16), some (.ref a1), some (.int x2), some (.int x3)]) (st' := [.int 2, .int x2, .ref a1, .int 15, .ref 16]) (w' := q4) (g := []) (K := []) (by decide +kernel) rfl rfl rfl rfl jk0 ?_
  obtain ⟨q5, hq5, h⟩ := jbe h
  refine ev_callV (ci := 3) (a := a1) (y2 := y_Rows_at) (o := 8) (idx := 49) (d2 := d_Rows_at) (n := 2) (mc2 := 0) (ms2 := 0) (As := [.int x2, .int 2]) (st := [.int 15, .ref 16]) (res2 := (some (.int q5.1), jR0, q5.2)) (by decide +kernel) rfl lk_8_49 mo_Rows_at mv_Rows_at ⟨Nat.le_of_ble_eq_true rfl, Nat.le_of_ble_eq_true rfl⟩ rfl rfl h_a1 (by decide) rfl (Nat.le_of_ble_eq_true rfl) ⟨Nat.le_refl _, Nat.le_refl _⟩ hG (e_Rows_at hG h_a1 hq5) ?_
  obtain ⟨q6, hq6, h⟩ := jbe h
  refine ev_callV (ci := 8) (a := 16) (y2 := y_Treaty_see) (o := 8) (idx := 69) (d2 := d_Treaty_see) (n := 2) (mc2 := 0) (ms2 := 0) (As := [.int 15, .int q5.1]) (st := []) (res2 := (none, jR0, q6)) (by decide +kernel) rfl lk_8_69 mo_Treaty_see mv_Treaty_see ⟨Nat.le_of_ble_eq_true rfl, Nat.le_of_ble_eq_true rfl⟩ rfl rfl kz_16 (by decide) rfl (Nat.le_of_ble_eq_true rfl) ⟨Nat.le_refl _, Nat.le_refl _⟩ hG (e_Treaty_see hG hq6) ?_
  refine ev_seg (o := 8) (nL := 4) (q := 40) (xs := [(.aload_n 0, 1, 0, 0, .null), (.bipush 16, 2, 0, 0, .int 16), (.iload_n 3, 1, 3, 0, .null)]) (L' := [some (.ref 16), some (.ref a1), some (.int x2), some (.int x3)]) (st' := [.int x3, .int 16, .ref 16]) (w' := q6) (g := []) (K := []) (by decide +kernel) rfl rfl rfl rfl jk0 ?_
  obtain ⟨q7, hq7, h⟩ := jbe h
  refine ev_callV (ci := 8) (a := 16) (y2 := y_Treaty_see) (o := 8) (idx := 69) (d2 := d_Treaty_see) (n := 2) (mc2 := 0) (ms2 := 0) (As := [.int 16, .int x3]) (st := []) (res2 := (none, jR0, q7)) (by decide +kernel) rfl lk_8_69 mo_Treaty_see mv_Treaty_see ⟨Nat.le_of_ble_eq_true rfl, Nat.le_of_ble_eq_true rfl⟩ rfl rfl kz_16 (by decide) rfl (Nat.le_of_ble_eq_true rfl) ⟨Nat.le_refl _, Nat.le_refl _⟩ hG (e_Treaty_see hG hq7) ?_
  refine ev_seg (o := 8) (nL := 4) (q := 49) (xs := [(.aload_n 0, 1, 0, 0, .null), (.bipush 17, 2, 0, 0, .int 17), (.aload_n 1, 1, 1, 0, .null), (.iload_n 2, 1, 2, 0, .null), (.iconst 3, 1, 0, 0, .int 3)]) (L' := [some (.ref 16), some (.ref a1), some (.int x2), some (.int x3)]) (st' := [.int 3, .int x2, .ref a1, .int 17, .ref 16]) (w' := q7) (g := []) (K := []) (by decide +kernel) rfl rfl rfl rfl jk0 ?_
  obtain ⟨q8, hq8, h⟩ := jbe h
  refine ev_callV (ci := 3) (a := a1) (y2 := y_Rows_at) (o := 8) (idx := 49) (d2 := d_Rows_at) (n := 2) (mc2 := 0) (ms2 := 0) (As := [.int x2, .int 3]) (st := [.int 17, .ref 16]) (res2 := (some (.int q8.1), jR0, q8.2)) (by decide +kernel) rfl lk_8_49 mo_Rows_at mv_Rows_at ⟨Nat.le_of_ble_eq_true rfl, Nat.le_of_ble_eq_true rfl⟩ rfl rfl h_a1 (by decide) rfl (Nat.le_of_ble_eq_true rfl) ⟨Nat.le_refl _, Nat.le_refl _⟩ hG (e_Rows_at hG h_a1 hq8) ?_
  obtain ⟨q9, hq9, h⟩ := jbe h
  refine ev_callV (ci := 8) (a := 16) (y2 := y_Treaty_see) (o := 8) (idx := 69) (d2 := d_Treaty_see) (n := 2) (mc2 := 0) (ms2 := 0) (As := [.int 17, .int q8.1]) (st := []) (res2 := (none, jR0, q9)) (by decide +kernel) rfl lk_8_69 mo_Treaty_see mv_Treaty_see ⟨Nat.le_of_ble_eq_true rfl, Nat.le_of_ble_eq_true rfl⟩ rfl rfl kz_16 (by decide) rfl (Nat.le_of_ble_eq_true rfl) ⟨Nat.le_refl _, Nat.le_refl _⟩ hG (e_Treaty_see hG hq9) ?_
  cases h
  exact ev_vret (by decide +kernel) rfl rfl rfl rfl
def f_Treaty_operand (x1 : Int32) (w : jW) : Option (Int32 × jW) :=
  if ((x1 - 20000) - 13) < 0 then
    some (x1, w)
  else
    if ((x1 - 20000) - 13) < (Int32.ofNat 5) then
      if jal [jin ((x1 - 20000) - 13) 5] = true then
      some ((w.1 23 (Int32.toNatClampNeg ((x1 - 20000) - 13))), w)
      else none
    else
      some (x1, w)
set_option maxRecDepth 20000 in
theorem e_Treaty_operand {l : Launch} {G : jG} (hG : jX G) {x1 : Int32} {w : jW} {z : (Int32 × jW)} (h : f_Treaty_operand x1 w = some z) : Ct l G y_Treaty_operand d_Treaty_operand 0 0 [.ref 16, .int x1] jR0 w (some (.int z.1), jR0, z.2) := by
  rw [f_Treaty_operand] at h
  refine Ct.of (L := [some (.ref 16), some (.int x1), none]) (by decide) (Nat.le_of_ble_eq_true rfl) rfl ?_
  refine ev_seg (o := 8) (nL := 3) (q := 10) (xs := [(.iload_n 1, 1, 1, 0, .null), (.sipush 20000, 3, 0, 0, .int 20000), (.isub, 1, 0, 0, .null), (.bipush 13, 2, 0, 0, .int 13), (.isub, 1, 0, 0, .null), (.istore_n 2, 1, 2, 0, .null), (.iload_n 2, 1, 2, 0, .null)]) (L' := [some (.ref 16), some (.int x1), some (.int ((x1 - 20000) - 13))]) (st' := [.int ((x1 - 20000) - 13)]) (w' := w) (g := []) (K := []) (by decide +kernel) rfl rfl rfl rfl jk0 ?_
  refine ev_if_lt (off := 21) (tgt := 31) (by decide +kernel) (by decide) (fun c3 => ?_) (fun c3 => ?_)
  · replace h := jpos c3 h
    refine ev_seg (o := 8) (nL := 3) (q := 32) (xs := [(.iload_n 1, 1, 1, 0, .null)]) (L' := [some (.ref 16), some (.int x1), some (.int ((x1 - 20000) - 13))]) (st' := [.int x1]) (w' := w) (g := []) (K := []) (by decide +kernel) rfl rfl rfl rfl jk0 ?_
    cases h
    exact ev_iret (by decide +kernel) rfl rfl rfl rfl
  · replace h := jneg c3 h
    refine ev_seg (o := 8) (nL := 3) (q := 19) (xs := [(.iload_n 2, 1, 2, 0, .null), (.aload_n 0, 1, 0, 0, .null), (.getfield 26, 3, 8, 3, .ref 20), (.arraylength, 1, 20, 0, .null)]) (L' := [some (.ref 16), some (.int x1), some (.int ((x1 - 20000) - 13))]) (st' := [.int (Int32.ofNat 5), .int ((x1 - 20000) - 13)]) (w' := w) (g := []) (K := [(23, 20), (23, 20), (16, 8)]) (by decide +kernel) rfl rfl rfl rfl (jk1 kz_23 (jk1 kz_23 (jk1 kz_16 jk0))) ?_
    refine ev_icmp_ge (off := 12) (tgt := 31) (by decide +kernel) (by decide) (fun c2 => ?_) (fun c2 => ?_)
    · replace h := jneg c2 h
      refine ev_seg (o := 8) (nL := 3) (q := 32) (xs := [(.iload_n 1, 1, 1, 0, .null)]) (L' := [some (.ref 16), some (.int x1), some (.int ((x1 - 20000) - 13))]) (st' := [.int x1]) (w' := w) (g := []) (K := []) (by decide +kernel) rfl rfl rfl rfl jk0 ?_
      cases h
      exact ev_iret (by decide +kernel) rfl rfl rfl rfl
    · replace h := jpos c2 h
      obtain ⟨hg1, h⟩ := jgd h
      refine ev_seg (o := 8) (nL := 3) (q := 32) (xs := [(.aload_n 0, 1, 0, 0, .null), (.getfield 26, 3, 8, 3, .ref 20), (.iload_n 2, 1, 2, 0, .null), (.iaload, 1, 0, 0, .null), (.goto 4, 3, 0, 0, .null)]) (L' := [some (.ref 16), some (.int x1), some (.int ((x1 - 20000) - 13))]) (st' := [.int (w.1 23 (Int32.toNatClampNeg ((x1 - 20000) - 13)))]) (w' := w) (g := [jin ((x1 - 20000) - 13) 5]) (K := [(23, 20), (23, 20), (16, 8)]) (by decide +kernel) rfl rfl rfl hg1 (jk1 kz_23 (jk1 kz_23 (jk1 kz_16 jk0))) ?_
      cases h
      exact ev_iret (by decide +kernel) rfl rfl rfl rfl
def f_Treaty_compares (x0 : Int32) (x1 : Int32) (x2 : Int32) (w : jW) : Option (Int32 × jW) :=
  if (x1 - 30000) = 18 then
    if x0 < x2 then
      some (1, w)
    else
      some (0, w)
  else
  if (x1 - 30000) = 19 then
    if x0 ≤ x2 then
      some (1, w)
    else
      some (0, w)
  else
  if (x1 - 30000) = 20 then
    if x0 ≤ x2 then
      some (0, w)
    else
      some (1, w)
  else
  if (x1 - 30000) = 21 then
    if x0 < x2 then
      some (0, w)
    else
      some (1, w)
  else
  if (x1 - 30000) = 22 then
    if x0 = x2 then
      some (1, w)
    else
      some (0, w)
  else
    if x0 = x2 then
      some (0, w)
    else
      some (1, w)
set_option maxRecDepth 20000 in
theorem e_Treaty_compares {l : Launch} {G : jG} (hG : jX G) {x0 : Int32} {x1 : Int32} {x2 : Int32} {w : jW} {z : (Int32 × jW)} (h : f_Treaty_compares x0 x1 x2 w = some z) : Ct l G y_Treaty_compares d_Treaty_compares 0 0 [.int x0, .int x1, .int x2] jR0 w (some (.int z.1), jR0, z.2) := by
  rw [f_Treaty_compares] at h
  refine Ct.of (L := [some (.int x0), some (.int x1), some (.int x2)]) (by decide) (Nat.le_of_ble_eq_true rfl) rfl ?_
  refine ev_seg (o := 8) (nL := 3) (q := 5) (xs := [(.iload_n 1, 1, 1, 0, .null), (.sipush 30000, 3, 0, 0, .int 30000), (.isub, 1, 0, 0, .null)]) (L' := [some (.int x0), some (.int x1), some (.int x2)]) (st' := [.int (x1 - 30000)]) (w' := w) (g := []) (K := []) (by decide +kernel) rfl rfl rfl rfl jk0 ?_
  by_cases c2 : (x1 - 30000) = 18
  · replace h := jpos c2 h
    refine ev_tableIn (dflt := 90) (lo := 18) (hi := 22) (offs := #[35, 46, 57, 68, 79]) (len := 35) (off := 35) (tgt := 40) (by decide +kernel) (by rw [c2]; decide) (by rw [c2]; decide) (by rw [c2]; decide) (by decide) ?_
    refine ev_seg (o := 8) (nL := 3) (q := 42) (xs := [(.iload_n 0, 1, 0, 0, .null), (.iload_n 2, 1, 2, 0, .null)]) (L' := [some (.int x0), some (.int x1), some (.int x2)]) (st' := [.int x2, .int x0]) (w' := w) (g := []) (K := []) (by decide +kernel) rfl rfl rfl rfl jk0 ?_
    refine ev_icmp_ge (off := 7) (tgt := 49) (by decide +kernel) (by decide) (fun c3 => ?_) (fun c3 => ?_)
    · replace h := jneg c3 h
      refine ev_seg (o := 8) (nL := 3) (q := 50) (xs := [(.iconst 0, 1, 0, 0, .int 0)]) (L' := [some (.int x0), some (.int x1), some (.int x2)]) (st' := [.int 0]) (w' := w) (g := []) (K := []) (by decide +kernel) rfl rfl rfl rfl jk0 ?_
      cases h
      exact ev_zret (by decide +kernel) rfl rfl rfl rfl rfl
    · replace h := jpos c3 h
      refine ev_seg (o := 8) (nL := 3) (q := 50) (xs := [(.iconst 1, 1, 0, 0, .int 1), (.goto 4, 3, 0, 0, .null)]) (L' := [some (.int x0), some (.int x1), some (.int x2)]) (st' := [.int 1]) (w' := w) (g := []) (K := []) (by decide +kernel) rfl rfl rfl rfl jk0 ?_
      cases h
      exact ev_zret (by decide +kernel) rfl rfl rfl rfl rfl
  · replace h := jneg c2 h
    by_cases c4 : (x1 - 30000) = 19
    · replace h := jpos c4 h
      refine ev_tableIn (dflt := 90) (lo := 18) (hi := 22) (offs := #[35, 46, 57, 68, 79]) (len := 35) (off := 46) (tgt := 51) (by decide +kernel) (by rw [c4]; decide) (by rw [c4]; decide) (by rw [c4]; decide) (by decide) ?_
      refine ev_seg (o := 8) (nL := 3) (q := 53) (xs := [(.iload_n 0, 1, 0, 0, .null), (.iload_n 2, 1, 2, 0, .null)]) (L' := [some (.int x0), some (.int x1), some (.int x2)]) (st' := [.int x2, .int x0]) (w' := w) (g := []) (K := []) (by decide +kernel) rfl rfl rfl rfl jk0 ?_
      refine ev_icmp_gt (off := 7) (tgt := 60) (by decide +kernel) (by decide) (fun c5 => ?_) (fun c5 => ?_)
      · replace h := jneg c5 h
        refine ev_seg (o := 8) (nL := 3) (q := 61) (xs := [(.iconst 0, 1, 0, 0, .int 0)]) (L' := [some (.int x0), some (.int x1), some (.int x2)]) (st' := [.int 0]) (w' := w) (g := []) (K := []) (by decide +kernel) rfl rfl rfl rfl jk0 ?_
        cases h
        exact ev_zret (by decide +kernel) rfl rfl rfl rfl rfl
      · replace h := jpos c5 h
        refine ev_seg (o := 8) (nL := 3) (q := 61) (xs := [(.iconst 1, 1, 0, 0, .int 1), (.goto 4, 3, 0, 0, .null)]) (L' := [some (.int x0), some (.int x1), some (.int x2)]) (st' := [.int 1]) (w' := w) (g := []) (K := []) (by decide +kernel) rfl rfl rfl rfl jk0 ?_
        cases h
        exact ev_zret (by decide +kernel) rfl rfl rfl rfl rfl
    · replace h := jneg c4 h
      by_cases c6 : (x1 - 30000) = 20
      · replace h := jpos c6 h
        refine ev_tableIn (dflt := 90) (lo := 18) (hi := 22) (offs := #[35, 46, 57, 68, 79]) (len := 35) (off := 57) (tgt := 62) (by decide +kernel) (by rw [c6]; decide) (by rw [c6]; decide) (by rw [c6]; decide) (by decide) ?_
        refine ev_seg (o := 8) (nL := 3) (q := 64) (xs := [(.iload_n 0, 1, 0, 0, .null), (.iload_n 2, 1, 2, 0, .null)]) (L' := [some (.int x0), some (.int x1), some (.int x2)]) (st' := [.int x2, .int x0]) (w' := w) (g := []) (K := []) (by decide +kernel) rfl rfl rfl rfl jk0 ?_
        refine ev_icmp_le (off := 7) (tgt := 71) (by decide +kernel) (by decide) (fun c7 => ?_) (fun c7 => ?_)
        · replace h := jpos c7 h
          refine ev_seg (o := 8) (nL := 3) (q := 72) (xs := [(.iconst 0, 1, 0, 0, .int 0)]) (L' := [some (.int x0), some (.int x1), some (.int x2)]) (st' := [.int 0]) (w' := w) (g := []) (K := []) (by decide +kernel) rfl rfl rfl rfl jk0 ?_
          cases h
          exact ev_zret (by decide +kernel) rfl rfl rfl rfl rfl
        · replace h := jneg c7 h
          refine ev_seg (o := 8) (nL := 3) (q := 72) (xs := [(.iconst 1, 1, 0, 0, .int 1), (.goto 4, 3, 0, 0, .null)]) (L' := [some (.int x0), some (.int x1), some (.int x2)]) (st' := [.int 1]) (w' := w) (g := []) (K := []) (by decide +kernel) rfl rfl rfl rfl jk0 ?_
          cases h
          exact ev_zret (by decide +kernel) rfl rfl rfl rfl rfl
      · replace h := jneg c6 h
        by_cases c8 : (x1 - 30000) = 21
        · replace h := jpos c8 h
          refine ev_tableIn (dflt := 90) (lo := 18) (hi := 22) (offs := #[35, 46, 57, 68, 79]) (len := 35) (off := 68) (tgt := 73) (by decide +kernel) (by rw [c8]; decide) (by rw [c8]; decide) (by rw [c8]; decide) (by decide) ?_
          refine ev_seg (o := 8) (nL := 3) (q := 75) (xs := [(.iload_n 0, 1, 0, 0, .null), (.iload_n 2, 1, 2, 0, .null)]) (L' := [some (.int x0), some (.int x1), some (.int x2)]) (st' := [.int x2, .int x0]) (w' := w) (g := []) (K := []) (by decide +kernel) rfl rfl rfl rfl jk0 ?_
          refine ev_icmp_lt (off := 7) (tgt := 82) (by decide +kernel) (by decide) (fun c9 => ?_) (fun c9 => ?_)
          · replace h := jpos c9 h
            refine ev_seg (o := 8) (nL := 3) (q := 83) (xs := [(.iconst 0, 1, 0, 0, .int 0)]) (L' := [some (.int x0), some (.int x1), some (.int x2)]) (st' := [.int 0]) (w' := w) (g := []) (K := []) (by decide +kernel) rfl rfl rfl rfl jk0 ?_
            cases h
            exact ev_zret (by decide +kernel) rfl rfl rfl rfl rfl
          · replace h := jneg c9 h
            refine ev_seg (o := 8) (nL := 3) (q := 83) (xs := [(.iconst 1, 1, 0, 0, .int 1), (.goto 4, 3, 0, 0, .null)]) (L' := [some (.int x0), some (.int x1), some (.int x2)]) (st' := [.int 1]) (w' := w) (g := []) (K := []) (by decide +kernel) rfl rfl rfl rfl jk0 ?_
            cases h
            exact ev_zret (by decide +kernel) rfl rfl rfl rfl rfl
        · replace h := jneg c8 h
          by_cases c10 : (x1 - 30000) = 22
          · replace h := jpos c10 h
            refine ev_tableIn (dflt := 90) (lo := 18) (hi := 22) (offs := #[35, 46, 57, 68, 79]) (len := 35) (off := 79) (tgt := 84) (by decide +kernel) (by rw [c10]; decide) (by rw [c10]; decide) (by rw [c10]; decide) (by decide) ?_
            refine ev_seg (o := 8) (nL := 3) (q := 86) (xs := [(.iload_n 0, 1, 0, 0, .null), (.iload_n 2, 1, 2, 0, .null)]) (L' := [some (.int x0), some (.int x1), some (.int x2)]) (st' := [.int x2, .int x0]) (w' := w) (g := []) (K := []) (by decide +kernel) rfl rfl rfl rfl jk0 ?_
            refine ev_icmp_ne (off := 7) (tgt := 93) (by decide +kernel) (by decide) (fun c11 => ?_) (fun c11 => ?_)
            · replace h := jneg c11 h
              refine ev_seg (o := 8) (nL := 3) (q := 94) (xs := [(.iconst 0, 1, 0, 0, .int 0)]) (L' := [some (.int x0), some (.int x1), some (.int x2)]) (st' := [.int 0]) (w' := w) (g := []) (K := []) (by decide +kernel) rfl rfl rfl rfl jk0 ?_
              cases h
              exact ev_zret (by decide +kernel) rfl rfl rfl rfl rfl
            · replace h := jpos c11 h
              refine ev_seg (o := 8) (nL := 3) (q := 94) (xs := [(.iconst 1, 1, 0, 0, .int 1), (.goto 4, 3, 0, 0, .null)]) (L' := [some (.int x0), some (.int x1), some (.int x2)]) (st' := [.int 1]) (w' := w) (g := []) (K := []) (by decide +kernel) rfl rfl rfl rfl jk0 ?_
              cases h
              exact ev_zret (by decide +kernel) rfl rfl rfl rfl rfl
          · replace h := jneg c10 h
            have ec2 := lv_neT (a := 18) c2 rfl
            have ec4 := lv_neT (a := 19) c4 rfl
            have ec6 := lv_neT (a := 20) c6 rfl
            have ec8 := lv_neT (a := 21) c8 rfl
            have ec10 := lv_neT (a := 22) c10 rfl
            refine ev_tableOut (dflt := 90) (lo := 18) (hi := 22) (offs := #[35, 46, 57, 68, 79]) (len := 35) (tgt := 95) (by decide +kernel) (by omega) (by decide) ?_
            refine ev_seg (o := 8) (nL := 3) (q := 97) (xs := [(.iload_n 0, 1, 0, 0, .null), (.iload_n 2, 1, 2, 0, .null)]) (L' := [some (.int x0), some (.int x1), some (.int x2)]) (st' := [.int x2, .int x0]) (w' := w) (g := []) (K := []) (by decide +kernel) rfl rfl rfl rfl jk0 ?_
            refine ev_icmp_eq (off := 7) (tgt := 104) (by decide +kernel) (by decide) (fun c1 => ?_) (fun c1 => ?_)
            · replace h := jpos c1 h
              refine ev_seg (o := 8) (nL := 3) (q := 105) (xs := [(.iconst 0, 1, 0, 0, .int 0)]) (L' := [some (.int x0), some (.int x1), some (.int x2)]) (st' := [.int 0]) (w' := w) (g := []) (K := []) (by decide +kernel) rfl rfl rfl rfl jk0 ?_
              cases h
              exact ev_zret (by decide +kernel) rfl rfl rfl rfl rfl
            · replace h := jneg c1 h
              refine ev_seg (o := 8) (nL := 3) (q := 105) (xs := [(.iconst 1, 1, 0, 0, .int 1), (.goto 4, 3, 0, 0, .null)]) (L' := [some (.int x0), some (.int x1), some (.int x2)]) (st' := [.int 1]) (w' := w) (g := []) (K := []) (by decide +kernel) rfl rfl rfl rfl jk0 ?_
              cases h
              exact ev_zret (by decide +kernel) rfl rfl rfl rfl rfl
def f_Treaty_holds_h24 : Nat → Int64 → Int32 → Int32 → jW → Option (Int32 × jW)
  | 0, _, _, _, _ => none
  | n + 1, x2, x4, x5, w =>
  if x5 < x4 then
    Option.bind (f_Rows_at 21 x5 0 w) fun q4 =>
    if q4.1 = 30012 then
      (f_Treaty_holds_h24 n) (x2 ^^^ 1) x4 (x5 + 1) q4.2
    else
      if q4.1 = 30011 then
        (f_Treaty_holds_h24 n) ((x2 >>> (Int32.toInt64 1 &&& 63)) &&& (x2 ||| (-2))) x4 (x5 + 1) q4.2
      else
        if q4.1 = 30010 then
          (f_Treaty_holds_h24 n) ((x2 >>> (Int32.toInt64 1 &&& 63)) ||| (x2 &&& 1)) x4 (x5 + 1) q4.2
        else
          Option.bind (f_Treaty_operand q4.1 q4.2) fun q5 =>
          Option.bind (f_Rows_at 21 (x5 + 1) 0 q5.2) fun q6 =>
          Option.bind (f_Rows_at 21 (x5 + 2) 0 q6.2) fun q7 =>
          Option.bind (f_Treaty_operand q7.1 q7.2) fun q8 =>
          Option.bind (f_Treaty_compares q5.1 q6.1 q8.1 q8.2) fun q9 =>
          if q9.1 = 0 then
            (f_Treaty_holds_h24 n) ((x2 <<< (Int32.toInt64 1 &&& 63)) ||| (Int32.toInt64 0)) x4 ((x5 + 2) + 1) q9.2
          else
            (f_Treaty_holds_h24 n) ((x2 <<< (Int32.toInt64 1 &&& 63)) ||| (Int32.toInt64 1)) x4 ((x5 + 2) + 1) q9.2
  else
    if (lg_cmp (x2 &&& 1) 1) = 0 then
      some (1, w)
    else
      some (0, w)
set_option maxRecDepth 20000 in
theorem t_Treaty_holds_h24 {l : Launch} {G : jG} (hG : jX G) : ∀ (n : Nat) (x2 : Int64) (x4 : Int32) (x5 : Int32) (w : jW) (z : (Int32 × jW)), f_Treaty_holds_h24 n x2 x4 x5 w = some z → Ev l G (jrm d_Treaty_holds 0 0) y_Treaty_holds (some (.int z.1), jR0, z.2) 0 0 0 0 24 [some (.ref 16), none, some (.long x2), none, some (.int x4), some (.int x5), none, none] [] jR0 w := by
  intro n
  induction n with
  | zero => intro x2 x4 x5 w z h; simp only [f_Treaty_holds_h24] at h; cases h
  | succ n ih =>
    intro x2 x4 x5 w z h
    rw [f_Treaty_holds_h24] at h
    refine ev_seg (o := 8) (nL := 8) (q := 28) (xs := [(.iload 5, 2, 5, 0, .null), (.iload 4, 2, 4, 0, .null)]) (L' := [some (.ref 16), none, some (.long x2), none, some (.int x4), some (.int x5), none, none]) (st' := [.int x4, .int x5]) (w' := w) (g := []) (K := []) (by decide +kernel) rfl rfl rfl rfl jk0 ?_
    refine ev_icmp_ge (off := 134) (tgt := 162) (by decide +kernel) (by decide) (fun c14 => ?_) (fun c14 => ?_)
    · replace h := jneg c14 h
      refine ev_seg (o := 8) (nL := 8) (q := 167) (xs := [(.lload_n 2, 1, 2, 0, .null), (.lconst 1, 1, 0, 0, .long 1), (.land, 1, 0, 0, .null), (.lconst 1, 1, 0, 0, .long 1), (.lcmp, 1, 0, 0, .null)]) (L' := [some (.ref 16), none, some (.long x2), none, some (.int x4), some (.int x5), none, none]) (st' := [.int (lg_cmp (x2 &&& 1) 1)]) (w' := w) (g := []) (K := []) (by decide +kernel) rfl rfl rfl rfl jk0 ?_
      refine ev_if_ne (off := 7) (tgt := 174) (by decide +kernel) (by decide) (fun c3 => ?_) (fun c3 => ?_)
      · replace h := jneg c3 h
        refine ev_seg (o := 8) (nL := 8) (q := 175) (xs := [(.iconst 0, 1, 0, 0, .int 0)]) (L' := [some (.ref 16), none, some (.long x2), none, some (.int x4), some (.int x5), none, none]) (st' := [.int 0]) (w' := w) (g := []) (K := []) (by decide +kernel) rfl rfl rfl rfl jk0 ?_
        cases h
        exact ev_zret (by decide +kernel) rfl rfl rfl rfl rfl
      · replace h := jpos c3 h
        refine ev_seg (o := 8) (nL := 8) (q := 175) (xs := [(.iconst 1, 1, 0, 0, .int 1), (.goto 4, 3, 0, 0, .null)]) (L' := [some (.ref 16), none, some (.long x2), none, some (.int x4), some (.int x5), none, none]) (st' := [.int 1]) (w' := w) (g := []) (K := []) (by decide +kernel) rfl rfl rfl rfl jk0 ?_
        cases h
        exact ev_zret (by decide +kernel) rfl rfl rfl rfl rfl
    · replace h := jpos c14 h
      refine ev_seg (o := 8) (nL := 8) (q := 38) (xs := [(.aload_n 0, 1, 0, 0, .null), (.getfield 23, 3, 8, 2, .ref 3), (.iload 5, 2, 5, 0, .null), (.iconst 0, 1, 0, 0, .int 0)]) (L' := [some (.ref 16), none, some (.long x2), none, some (.int x4), some (.int x5), none, none]) (st' := [.int 0, .int x5, .ref 21]) (w' := w) (g := []) (K := [(21, 3), (16, 8)]) (by decide +kernel) rfl rfl rfl rfl (jk1 kz_21 (jk1 kz_16 jk0)) ?_
      obtain ⟨q4, hq4, h⟩ := jbe h
      refine ev_callV (ci := 3) (a := 21) (y2 := y_Rows_at) (o := 8) (idx := 49) (d2 := d_Rows_at) (n := 2) (mc2 := 0) (ms2 := 0) (As := [.int x5, .int 0]) (st := []) (res2 := (some (.int q4.1), jR0, q4.2)) (by decide +kernel) rfl lk_8_49 mo_Rows_at mv_Rows_at ⟨Nat.le_of_ble_eq_true rfl, Nat.le_of_ble_eq_true rfl⟩ rfl rfl kz_21 (by decide) rfl (Nat.le_of_ble_eq_true rfl) ⟨Nat.le_refl _, Nat.le_refl _⟩ hG (e_Rows_at hG kz_21 hq4) ?_
      refine ev_seg (o := 8) (nL := 8) (q := 48) (xs := [(.istore 6, 2, 6, 0, .null), (.iload 6, 2, 6, 0, .null), (.sipush 30012, 3, 0, 0, .int 30012)]) (L' := [some (.ref 16), none, some (.long x2), none, some (.int x4), some (.int x5), some (.int q4.1), none]) (st' := [.int 30012, .int q4.1]) (w' := q4.2) (g := []) (K := []) (by decide +kernel) rfl rfl rfl rfl jk0 ?_
      refine ev_icmp_ne (off := 10) (tgt := 58) (by decide +kernel) (by decide) (fun c13 => ?_) (fun c13 => ?_)
      · replace h := jneg c13 h
        refine ev_seg (o := 8) (nL := 8) (q := 63) (xs := [(.iload 6, 2, 6, 0, .null), (.sipush 30011, 3, 0, 0, .int 30011)]) (L' := [some (.ref 16), none, some (.long x2), none, some (.int x4), some (.int x5), some (.int q4.1), none]) (st' := [.int 30011, .int q4.1]) (w' := q4.2) (g := []) (K := []) (by decide +kernel) rfl rfl rfl rfl jk0 ?_
        refine ev_icmp_ne (off := 16) (tgt := 79) (by decide +kernel) (by decide) (fun c12 => ?_) (fun c12 => ?_)
        · replace h := jneg c12 h
          refine ev_seg (o := 8) (nL := 8) (q := 84) (xs := [(.iload 6, 2, 6, 0, .null), (.sipush 30010, 3, 0, 0, .int 30010)]) (L' := [some (.ref 16), none, some (.long x2), none, some (.int x4), some (.int x5), some (.int q4.1), none]) (st' := [.int 30010, .int q4.1]) (w' := q4.2) (g := []) (K := []) (by decide +kernel) rfl rfl rfl rfl jk0 ?_
          refine ev_icmp_ne (off := 14) (tgt := 98) (by decide +kernel) (by decide) (fun c11 => ?_) (fun c11 => ?_)
          · replace h := jneg c11 h
            refine ev_seg (o := 8) (nL := 8) (q := 101) (xs := [(.aload_n 0, 1, 0, 0, .null), (.iload 6, 2, 6, 0, .null)]) (L' := [some (.ref 16), none, some (.long x2), none, some (.int x4), some (.int x5), some (.int q4.1), none]) (st' := [.int q4.1, .ref 16]) (w' := q4.2) (g := []) (K := []) (by decide +kernel) rfl rfl rfl rfl jk0 ?_
            obtain ⟨q5, hq5, h⟩ := jbe h
            refine ev_callV (ci := 8) (a := 16) (y2 := y_Treaty_operand) (o := 8) (idx := 78) (d2 := d_Treaty_operand) (n := 1) (mc2 := 0) (ms2 := 0) (As := [.int q4.1]) (st := []) (res2 := (some (.int q5.1), jR0, q5.2)) (by decide +kernel) rfl lk_8_78 mo_Treaty_operand mv_Treaty_operand ⟨Nat.le_of_ble_eq_true rfl, Nat.le_of_ble_eq_true rfl⟩ rfl rfl kz_16 (by decide) rfl (Nat.le_of_ble_eq_true rfl) ⟨Nat.le_refl _, Nat.le_refl _⟩ hG (e_Treaty_operand hG hq5) ?_
            refine ev_seg (o := 8) (nL := 8) (q := 113) (xs := [(.aload_n 0, 1, 0, 0, .null), (.getfield 23, 3, 8, 2, .ref 3), (.iload 5, 2, 5, 0, .null), (.iconst 1, 1, 0, 0, .int 1), (.iadd, 1, 0, 0, .null), (.iconst 0, 1, 0, 0, .int 0)]) (L' := [some (.ref 16), none, some (.long x2), none, some (.int x4), some (.int x5), some (.int q4.1), none]) (st' := [.int 0, .int (x5 + 1), .ref 21, .int q5.1]) (w' := q5.2) (g := []) (K := [(21, 3), (16, 8)]) (by decide +kernel) rfl rfl rfl rfl (jk1 kz_21 (jk1 kz_16 jk0)) ?_
            obtain ⟨q6, hq6, h⟩ := jbe h
            refine ev_callV (ci := 3) (a := 21) (y2 := y_Rows_at) (o := 8) (idx := 49) (d2 := d_Rows_at) (n := 2) (mc2 := 0) (ms2 := 0) (As := [.int (x5 + 1), .int 0]) (st := [.int q5.1]) (res2 := (some (.int q6.1), jR0, q6.2)) (by decide +kernel) rfl lk_8_49 mo_Rows_at mv_Rows_at ⟨Nat.le_of_ble_eq_true rfl, Nat.le_of_ble_eq_true rfl⟩ rfl rfl kz_21 (by decide) rfl (Nat.le_of_ble_eq_true rfl) ⟨Nat.le_refl _, Nat.le_refl _⟩ hG (e_Rows_at hG kz_21 hq6) ?_
            refine ev_seg (o := 8) (nL := 8) (q := 126) (xs := [(.aload_n 0, 1, 0, 0, .null), (.aload_n 0, 1, 0, 0, .null), (.getfield 23, 3, 8, 2, .ref 3), (.iload 5, 2, 5, 0, .null), (.iconst 2, 1, 0, 0, .int 2), (.iadd, 1, 0, 0, .null), (.iconst 0, 1, 0, 0, .int 0)]) (L' := [some (.ref 16), none, some (.long x2), none, some (.int x4), some (.int x5), some (.int q4.1), none]) (st' := [.int 0, .int (x5 + 2), .ref 21, .ref 16, .int q6.1, .int q5.1]) (w' := q6.2) (g := []) (K := [(21, 3), (16, 8)]) (by decide +kernel) rfl rfl rfl rfl (jk1 kz_21 (jk1 kz_16 jk0)) ?_
            obtain ⟨q7, hq7, h⟩ := jbe h
            refine ev_callV (ci := 3) (a := 21) (y2 := y_Rows_at) (o := 8) (idx := 49) (d2 := d_Rows_at) (n := 2) (mc2 := 0) (ms2 := 0) (As := [.int (x5 + 2), .int 0]) (st := [.ref 16, .int q6.1, .int q5.1]) (res2 := (some (.int q7.1), jR0, q7.2)) (by decide +kernel) rfl lk_8_49 mo_Rows_at mv_Rows_at ⟨Nat.le_of_ble_eq_true rfl, Nat.le_of_ble_eq_true rfl⟩ rfl rfl kz_21 (by decide) rfl (Nat.le_of_ble_eq_true rfl) ⟨Nat.le_refl _, Nat.le_refl _⟩ hG (e_Rows_at hG kz_21 hq7) ?_
            obtain ⟨q8, hq8, h⟩ := jbe h
            refine ev_callV (ci := 8) (a := 16) (y2 := y_Treaty_operand) (o := 8) (idx := 78) (d2 := d_Treaty_operand) (n := 1) (mc2 := 0) (ms2 := 0) (As := [.int q7.1]) (st := [.int q6.1, .int q5.1]) (res2 := (some (.int q8.1), jR0, q8.2)) (by decide +kernel) rfl lk_8_78 mo_Treaty_operand mv_Treaty_operand ⟨Nat.le_of_ble_eq_true rfl, Nat.le_of_ble_eq_true rfl⟩ rfl rfl kz_16 (by decide) rfl (Nat.le_of_ble_eq_true rfl) ⟨Nat.le_refl _, Nat.le_refl _⟩ hG (e_Treaty_operand hG hq8) ?_
            obtain ⟨q9, hq9, h⟩ := jbe h
            refine ev_callS (y2 := y_Treaty_compares) (o := 8) (idx := 81) (d2 := d_Treaty_compares) (n := 3) (mc2 := 0) (ms2 := 0) (As := [.int q5.1, .int q6.1, .int q8.1]) (st := []) (res2 := (some (.int q9.1), jR0, q9.2)) (by decide +kernel) rfl lk_8_81 mo_Treaty_compares ms_Treaty_compares ⟨Nat.le_of_ble_eq_true rfl, Nat.le_of_ble_eq_true rfl⟩ rfl rfl (Nat.le_of_ble_eq_true rfl) ⟨Nat.le_refl _, Nat.le_refl _⟩ hG (e_Treaty_compares hG hq9) ?_
            refine ev_seg (o := 8) (nL := 8) (q := 142) (xs := [(.istore 7, 2, 7, 0, .null), (.lload_n 2, 1, 2, 0, .null), (.iconst 1, 1, 0, 0, .int 1), (.lshl, 1, 0, 0, .null), (.iload 7, 2, 7, 0, .null)]) (L' := [some (.ref 16), none, some (.long x2), none, some (.int x4), some (.int x5), some (.int q4.1), some (.int q9.1)]) (st' := [.int q9.1, .long (x2 <<< (Int32.toInt64 1 &&& 63))]) (w' := q9.2) (g := []) (K := []) (by decide +kernel) rfl rfl rfl rfl jk0 ?_
            refine ev_if_eq (off := 7) (tgt := 149) (by decide +kernel) (by decide) (fun c10 => ?_) (fun c10 => ?_)
            · replace h := jpos c10 h
              refine ev_seg (o := 8) (nL := 8) (q := 24) (xs := [(.iconst 0, 1, 0, 0, .int 0), (.i2l, 1, 0, 0, .null), (.lor, 1, 0, 0, .null), (.lstore_n 2, 1, 2, 0, .null), (.iinc 5 2, 3, 5, 0, .int 2), (.iinc 5 1, 3, 5, 0, .int 1), (.goto (-135), 3, 0, 0, .null)]) (L' := [some (.ref 16), none, some (.long ((x2 <<< (Int32.toInt64 1 &&& 63)) ||| (Int32.toInt64 0))), none, some (.int x4), some (.int ((x5 + 2) + 1)), some (.int q4.1), some (.int q9.1)]) (st' := []) (w' := q9.2) (g := []) (K := []) (by decide +kernel) rfl rfl rfl rfl jk0 ?_
              refine ev_mask [true, false, true, false, true, true, false, false] ?_
              exact ih _ _ _ _ _ h
            · replace h := jneg c10 h
              refine ev_seg (o := 8) (nL := 8) (q := 24) (xs := [(.iconst 1, 1, 0, 0, .int 1), (.goto 4, 3, 0, 0, .null), (.i2l, 1, 0, 0, .null), (.lor, 1, 0, 0, .null), (.lstore_n 2, 1, 2, 0, .null), (.iinc 5 2, 3, 5, 0, .int 2), (.iinc 5 1, 3, 5, 0, .int 1), (.goto (-135), 3, 0, 0, .null)]) (L' := [some (.ref 16), none, some (.long ((x2 <<< (Int32.toInt64 1 &&& 63)) ||| (Int32.toInt64 1))), none, some (.int x4), some (.int ((x5 + 2) + 1)), some (.int q4.1), some (.int q9.1)]) (st' := []) (w' := q9.2) (g := []) (K := []) (by decide +kernel) rfl rfl rfl rfl jk0 ?_
              refine ev_mask [true, false, true, false, true, true, false, false] ?_
              exact ih _ _ _ _ _ h
          · replace h := jpos c11 h
            refine ev_seg (o := 8) (nL := 8) (q := 24) (xs := [(.lload_n 2, 1, 2, 0, .null), (.iconst 1, 1, 0, 0, .int 1), (.lshr, 1, 0, 0, .null), (.lload_n 2, 1, 2, 0, .null), (.lconst 1, 1, 0, 0, .long 1), (.land, 1, 0, 0, .null), (.lor, 1, 0, 0, .null), (.lstore_n 2, 1, 2, 0, .null), (.goto 61, 3, 0, 0, .null), (.iinc 5 1, 3, 5, 0, .int 1), (.goto (-135), 3, 0, 0, .null)]) (L' := [some (.ref 16), none, some (.long ((x2 >>> (Int32.toInt64 1 &&& 63)) ||| (x2 &&& 1))), none, some (.int x4), some (.int (x5 + 1)), some (.int q4.1), none]) (st' := []) (w' := q4.2) (g := []) (K := []) (by decide +kernel) rfl rfl rfl rfl jk0 ?_
            refine ev_mask [true, false, true, false, true, true, false, false] ?_
            exact ih _ _ _ _ _ h
        · replace h := jpos c12 h
          refine ev_seg (o := 8) (nL := 8) (q := 24) (xs := [(.lload_n 2, 1, 2, 0, .null), (.iconst 1, 1, 0, 0, .int 1), (.lshr, 1, 0, 0, .null), (.lload_n 2, 1, 2, 0, .null), (.ldc2_w 76, 3, 0, 0, .long (-2)), (.lor, 1, 0, 0, .null), (.land, 1, 0, 0, .null), (.lstore_n 2, 1, 2, 0, .null), (.goto 80, 3, 0, 0, .null), (.iinc 5 1, 3, 5, 0, .int 1), (.goto (-135), 3, 0, 0, .null)]) (L' := [some (.ref 16), none, some (.long ((x2 >>> (Int32.toInt64 1 &&& 63)) &&& (x2 ||| (-2)))), none, some (.int x4), some (.int (x5 + 1)), some (.int q4.1), none]) (st' := []) (w' := q4.2) (g := []) (K := []) (by decide +kernel) rfl rfl rfl rfl jk0 ?_
          refine ev_mask [true, false, true, false, true, true, false, false] ?_
          exact ih _ _ _ _ _ h
      · replace h := jpos c13 h
        refine ev_seg (o := 8) (nL := 8) (q := 24) (xs := [(.lload_n 2, 1, 2, 0, .null), (.lconst 1, 1, 0, 0, .long 1), (.lxor, 1, 0, 0, .null), (.lstore_n 2, 1, 2, 0, .null), (.goto 101, 3, 0, 0, .null), (.iinc 5 1, 3, 5, 0, .int 1), (.goto (-135), 3, 0, 0, .null)]) (L' := [some (.ref 16), none, some (.long (x2 ^^^ 1)), none, some (.int x4), some (.int (x5 + 1)), some (.int q4.1), none]) (st' := []) (w' := q4.2) (g := []) (K := []) (by decide +kernel) rfl rfl rfl rfl jk0 ?_
        refine ev_mask [true, false, true, false, true, true, false, false] ?_
        exact ih _ _ _ _ _ h
def f_Treaty_holds (x1 : Int32) (w : jW) : Option (Int32 × jW) :=
  Option.bind (f_Rows_at 19 x1 2 w) fun q1 =>
  Option.bind (f_Rows_at 19 x1 1 q1.2) fun q2 =>
  f_Treaty_holds_h24 jfu 0 q1.1 q2.1 q2.2
set_option maxRecDepth 20000 in
theorem e_Treaty_holds {l : Launch} {G : jG} (hG : jX G) {x1 : Int32} {w : jW} {z : (Int32 × jW)} (h : f_Treaty_holds x1 w = some z) : Ct l G y_Treaty_holds d_Treaty_holds 0 0 [.ref 16, .int x1] jR0 w (some (.int z.1), jR0, z.2) := by
  rw [f_Treaty_holds] at h
  refine Ct.of (L := [some (.ref 16), some (.int x1), none, none, none, none, none, none]) (by decide) (Nat.le_of_ble_eq_true rfl) rfl ?_
  refine ev_seg (o := 8) (nL := 8) (q := 8) (xs := [(.lconst 0, 1, 0, 0, .long 0), (.lstore_n 2, 1, 2, 0, .null), (.aload_n 0, 1, 0, 0, .null), (.getfield 20, 3, 8, 1, .ref 3), (.iload_n 1, 1, 1, 0, .null), (.iconst 2, 1, 0, 0, .int 2)]) (L' := [some (.ref 16), some (.int x1), some (.long 0), none, none, none, none, none]) (st' := [.int 2, .int x1, .ref 19]) (w' := w) (g := []) (K := [(19, 3), (16, 8)]) (by decide +kernel) rfl rfl rfl rfl (jk1 kz_19 (jk1 kz_16 jk0)) ?_
  obtain ⟨q1, hq1, h⟩ := jbe h
  refine ev_callV (ci := 3) (a := 19) (y2 := y_Rows_at) (o := 8) (idx := 49) (d2 := d_Rows_at) (n := 2) (mc2 := 0) (ms2 := 0) (As := [.int x1, .int 2]) (st := []) (res2 := (some (.int q1.1), jR0, q1.2)) (by decide +kernel) rfl lk_8_49 mo_Rows_at mv_Rows_at ⟨Nat.le_of_ble_eq_true rfl, Nat.le_of_ble_eq_true rfl⟩ rfl rfl kz_19 (by decide) rfl (Nat.le_of_ble_eq_true rfl) ⟨Nat.le_refl _, Nat.le_refl _⟩ hG (e_Rows_at hG kz_19 hq1) ?_
  refine ev_seg (o := 8) (nL := 8) (q := 19) (xs := [(.istore 4, 2, 4, 0, .null), (.aload_n 0, 1, 0, 0, .null), (.getfield 20, 3, 8, 1, .ref 3), (.iload_n 1, 1, 1, 0, .null), (.iconst 1, 1, 0, 0, .int 1)]) (L' := [some (.ref 16), some (.int x1), some (.long 0), none, some (.int q1.1), none, none, none]) (st' := [.int 1, .int x1, .ref 19]) (w' := q1.2) (g := []) (K := [(19, 3), (16, 8)]) (by decide +kernel) rfl rfl rfl rfl (jk1 kz_19 (jk1 kz_16 jk0)) ?_
  obtain ⟨q2, hq2, h⟩ := jbe h
  refine ev_callV (ci := 3) (a := 19) (y2 := y_Rows_at) (o := 8) (idx := 49) (d2 := d_Rows_at) (n := 2) (mc2 := 0) (ms2 := 0) (As := [.int x1, .int 1]) (st := []) (res2 := (some (.int q2.1), jR0, q2.2)) (by decide +kernel) rfl lk_8_49 mo_Rows_at mv_Rows_at ⟨Nat.le_of_ble_eq_true rfl, Nat.le_of_ble_eq_true rfl⟩ rfl rfl kz_19 (by decide) rfl (Nat.le_of_ble_eq_true rfl) ⟨Nat.le_refl _, Nat.le_refl _⟩ hG (e_Rows_at hG kz_19 hq2) ?_
  refine ev_seg (o := 8) (nL := 8) (q := 24) (xs := [(.istore 5, 2, 5, 0, .null)]) (L' := [some (.ref 16), some (.int x1), some (.long 0), none, some (.int q1.1), some (.int q2.1), none, none]) (st' := []) (w' := q2.2) (g := []) (K := []) (by decide +kernel) rfl rfl rfl rfl jk0 ?_
  refine ev_mask [true, false, true, false, true, true, false, false] ?_
  exact t_Treaty_holds_h24 hG jfu _ _ _ _ _ h
def f_Treaty_someHolds_h10 : Nat → Int32 → Int32 → Int32 → jW → Option (Int32 × jW)
  | 0, _, _, _, _ => none
  | n + 1, x1, x2, x3, w =>
  Option.bind (f_Rows_at 17 x1 3 w) fun q2 =>
  if x3 < q2.1 then
    Option.bind (f_Rows_at 19 x3 0 q2.2) fun q3 =>
    if q3.1 = x2 then
      Option.bind (f_Treaty_holds x3 q3.2) fun q4 =>
      if q4.1 = 0 then
        (f_Treaty_someHolds_h10 n) x1 x2 (x3 + 1) q4.2
      else
        some (1, q4.2)
    else
      (f_Treaty_someHolds_h10 n) x1 x2 (x3 + 1) q3.2
  else
    some (0, q2.2)
set_option maxRecDepth 20000 in
theorem t_Treaty_someHolds_h10 {l : Launch} {G : jG} (hG : jX G) : ∀ (n : Nat) (x1 : Int32) (x2 : Int32) (x3 : Int32) (w : jW) (z : (Int32 × jW)), f_Treaty_someHolds_h10 n x1 x2 x3 w = some z → Ev l G (jrm d_Treaty_someHolds 0 0) y_Treaty_someHolds (some (.int z.1), jR0, z.2) 0 0 0 0 10 [some (.ref 16), some (.int x1), some (.int x2), some (.int x3)] [] jR0 w := by
  intro n
  induction n with
  | zero => intro x1 x2 x3 w z h; simp only [f_Treaty_someHolds_h10] at h; cases h
  | succ n ih =>
    intro x1 x2 x3 w z h
    rw [f_Treaty_someHolds_h10] at h
    refine ev_seg (o := 8) (nL := 4) (q := 17) (xs := [(.iload_n 3, 1, 3, 0, .null), (.aload_n 0, 1, 0, 0, .null), (.getfield 14, 3, 8, 0, .ref 3), (.iload_n 1, 1, 1, 0, .null), (.iconst 3, 1, 0, 0, .int 3)]) (L' := [some (.ref 16), some (.int x1), some (.int x2), some (.int x3)]) (st' := [.int 3, .int x1, .ref 17, .int x3]) (w' := w) (g := []) (K := [(17, 3), (16, 8)]) (by decide +kernel) rfl rfl rfl rfl (jk1 kz_17 (jk1 kz_16 jk0)) ?_
    obtain ⟨q2, hq2, h⟩ := jbe h
    refine ev_callV (ci := 3) (a := 17) (y2 := y_Rows_at) (o := 8) (idx := 49) (d2 := d_Rows_at) (n := 2) (mc2 := 0) (ms2 := 0) (As := [.int x1, .int 3]) (st := [.int x3]) (res2 := (some (.int q2.1), jR0, q2.2)) (by decide +kernel) rfl lk_8_49 mo_Rows_at mv_Rows_at ⟨Nat.le_of_ble_eq_true rfl, Nat.le_of_ble_eq_true rfl⟩ rfl rfl kz_17 (by decide) rfl (Nat.le_of_ble_eq_true rfl) ⟨Nat.le_refl _, Nat.le_refl _⟩ hG (e_Rows_at hG kz_17 hq2) ?_
    refine ev_icmp_ge (off := 32) (tgt := 52) (by decide +kernel) (by decide) (fun c7 => ?_) (fun c7 => ?_)
    · replace h := jneg c7 h
      refine ev_seg (o := 8) (nL := 4) (q := 53) (xs := [(.iconst 0, 1, 0, 0, .int 0)]) (L' := [some (.ref 16), some (.int x1), some (.int x2), some (.int x3)]) (st' := [.int 0]) (w' := q2.2) (g := []) (K := []) (by decide +kernel) rfl rfl rfl rfl jk0 ?_
      cases h
      exact ev_zret (by decide +kernel) rfl rfl rfl rfl rfl
    · replace h := jpos c7 h
      refine ev_seg (o := 8) (nL := 4) (q := 29) (xs := [(.aload_n 0, 1, 0, 0, .null), (.getfield 20, 3, 8, 1, .ref 3), (.iload_n 3, 1, 3, 0, .null), (.iconst 0, 1, 0, 0, .int 0)]) (L' := [some (.ref 16), some (.int x1), some (.int x2), some (.int x3)]) (st' := [.int 0, .int x3, .ref 19]) (w' := q2.2) (g := []) (K := [(19, 3), (16, 8)]) (by decide +kernel) rfl rfl rfl rfl (jk1 kz_19 (jk1 kz_16 jk0)) ?_
      obtain ⟨q3, hq3, h⟩ := jbe h
      refine ev_callV (ci := 3) (a := 19) (y2 := y_Rows_at) (o := 8) (idx := 49) (d2 := d_Rows_at) (n := 2) (mc2 := 0) (ms2 := 0) (As := [.int x3, .int 0]) (st := []) (res2 := (some (.int q3.1), jR0, q3.2)) (by decide +kernel) rfl lk_8_49 mo_Rows_at mv_Rows_at ⟨Nat.le_of_ble_eq_true rfl, Nat.le_of_ble_eq_true rfl⟩ rfl rfl kz_19 (by decide) rfl (Nat.le_of_ble_eq_true rfl) ⟨Nat.le_refl _, Nat.le_refl _⟩ hG (e_Rows_at hG kz_19 hq3) ?_
      refine ev_seg (o := 8) (nL := 4) (q := 33) (xs := [(.iload_n 2, 1, 2, 0, .null)]) (L' := [some (.ref 16), some (.int x1), some (.int x2), some (.int x3)]) (st' := [.int x2, .int q3.1]) (w' := q3.2) (g := []) (K := []) (by decide +kernel) rfl rfl rfl rfl jk0 ?_
      refine ev_icmp_ne (off := 13) (tgt := 46) (by decide +kernel) (by decide) (fun c6 => ?_) (fun c6 => ?_)
      · replace h := jneg c6 h
        refine ev_seg (o := 8) (nL := 4) (q := 10) (xs := [(.iinc 3 1, 3, 3, 0, .int 1), (.goto (-39), 3, 0, 0, .null)]) (L' := [some (.ref 16), some (.int x1), some (.int x2), some (.int (x3 + 1))]) (st' := []) (w' := q3.2) (g := []) (K := []) (by decide +kernel) rfl rfl rfl rfl jk0 ?_
        refine ev_mask [true, true, true, true] ?_
        exact ih _ _ _ _ _ h
      · replace h := jpos c6 h
        refine ev_seg (o := 8) (nL := 4) (q := 38) (xs := [(.aload_n 0, 1, 0, 0, .null), (.iload_n 3, 1, 3, 0, .null)]) (L' := [some (.ref 16), some (.int x1), some (.int x2), some (.int x3)]) (st' := [.int x3, .ref 16]) (w' := q3.2) (g := []) (K := []) (by decide +kernel) rfl rfl rfl rfl jk0 ?_
        obtain ⟨q4, hq4, h⟩ := jbe h
        refine ev_callV (ci := 8) (a := 16) (y2 := y_Treaty_holds) (o := 8) (idx := 72) (d2 := d_Treaty_holds) (n := 1) (mc2 := 0) (ms2 := 0) (As := [.int x3]) (st := []) (res2 := (some (.int q4.1), jR0, q4.2)) (by decide +kernel) rfl lk_8_72 mo_Treaty_holds mv_Treaty_holds ⟨Nat.le_of_ble_eq_true rfl, Nat.le_of_ble_eq_true rfl⟩ rfl rfl kz_16 (by decide) rfl (Nat.le_of_ble_eq_true rfl) ⟨Nat.le_refl _, Nat.le_refl _⟩ hG (e_Treaty_holds hG hq4) ?_
        refine ev_if_eq (off := 5) (tgt := 46) (by decide +kernel) (by decide) (fun c5 => ?_) (fun c5 => ?_)
        · replace h := jpos c5 h
          refine ev_seg (o := 8) (nL := 4) (q := 10) (xs := [(.iinc 3 1, 3, 3, 0, .int 1), (.goto (-39), 3, 0, 0, .null)]) (L' := [some (.ref 16), some (.int x1), some (.int x2), some (.int (x3 + 1))]) (st' := []) (w' := q4.2) (g := []) (K := []) (by decide +kernel) rfl rfl rfl rfl jk0 ?_
          refine ev_mask [true, true, true, true] ?_
          exact ih _ _ _ _ _ h
        · replace h := jneg c5 h
          refine ev_seg (o := 8) (nL := 4) (q := 45) (xs := [(.iconst 1, 1, 0, 0, .int 1)]) (L' := [some (.ref 16), some (.int x1), some (.int x2), some (.int x3)]) (st' := [.int 1]) (w' := q4.2) (g := []) (K := []) (by decide +kernel) rfl rfl rfl rfl jk0 ?_
          cases h
          exact ev_zret (by decide +kernel) rfl rfl rfl rfl rfl
def f_Treaty_someHolds (x1 : Int32) (x2 : Int32) (w : jW) : Option (Int32 × jW) :=
  Option.bind (f_Rows_at 17 x1 2 w) fun q1 =>
  f_Treaty_someHolds_h10 jfu x1 x2 q1.1 q1.2
set_option maxRecDepth 20000 in
theorem e_Treaty_someHolds {l : Launch} {G : jG} (hG : jX G) {x1 : Int32} {x2 : Int32} {w : jW} {z : (Int32 × jW)} (h : f_Treaty_someHolds x1 x2 w = some z) : Ct l G y_Treaty_someHolds d_Treaty_someHolds 0 0 [.ref 16, .int x1, .int x2] jR0 w (some (.int z.1), jR0, z.2) := by
  rw [f_Treaty_someHolds] at h
  refine Ct.of (L := [some (.ref 16), some (.int x1), some (.int x2), none]) (by decide) (Nat.le_of_ble_eq_true rfl) rfl ?_
  refine ev_seg (o := 8) (nL := 4) (q := 6) (xs := [(.aload_n 0, 1, 0, 0, .null), (.getfield 14, 3, 8, 0, .ref 3), (.iload_n 1, 1, 1, 0, .null), (.iconst 2, 1, 0, 0, .int 2)]) (L' := [some (.ref 16), some (.int x1), some (.int x2), none]) (st' := [.int 2, .int x1, .ref 17]) (w' := w) (g := []) (K := [(17, 3), (16, 8)]) (by decide +kernel) rfl rfl rfl rfl (jk1 kz_17 (jk1 kz_16 jk0)) ?_
  obtain ⟨q1, hq1, h⟩ := jbe h
  refine ev_callV (ci := 3) (a := 17) (y2 := y_Rows_at) (o := 8) (idx := 49) (d2 := d_Rows_at) (n := 2) (mc2 := 0) (ms2 := 0) (As := [.int x1, .int 2]) (st := []) (res2 := (some (.int q1.1), jR0, q1.2)) (by decide +kernel) rfl lk_8_49 mo_Rows_at mv_Rows_at ⟨Nat.le_of_ble_eq_true rfl, Nat.le_of_ble_eq_true rfl⟩ rfl rfl kz_17 (by decide) rfl (Nat.le_of_ble_eq_true rfl) ⟨Nat.le_refl _, Nat.le_refl _⟩ hG (e_Rows_at hG kz_17 hq1) ?_
  refine ev_seg (o := 8) (nL := 4) (q := 10) (xs := [(.istore_n 3, 1, 3, 0, .null)]) (L' := [some (.ref 16), some (.int x1), some (.int x2), some (.int q1.1)]) (st' := []) (w' := q1.2) (g := []) (K := []) (by decide +kernel) rfl rfl rfl rfl jk0 ?_
  refine ev_mask [true, true, true, true] ?_
  exact t_Treaty_someHolds_h10 hG jfu _ _ _ _ _ h
def f_State_isCounting_j27 (x1 : Int32) (s0 : Int32) (s1 : Int32) (w : jW) : Option (Int32 × jW) :=
  Option.bind (f_Treaty_look 10 s1 s0 w) fun q2 =>
  if x1 = (-1) then
    some (1, q2)
  else
    Option.bind (f_Treaty_someHolds x1 0 q2) fun q3 =>
    if q3.1 = 0 then
      some (0, q3.2)
    else
      some (1, q3.2)
set_option maxRecDepth 20000 in
theorem t_State_isCounting_j27 {l : Launch} {G : jG} (hG : jX G) {x1 : Int32} {s0 : Int32} {s1 : Int32} {w : jW} {z : (Int32 × jW)} (h : f_State_isCounting_j27 x1 s0 s1 w = some z) : Ev l G (jrm d_State_isCounting 0 0) y_State_isCounting (some (.int z.1), jR0, z.2) 0 0 0 0 27 [some (.ref 3), some (.int x1), none, none] [.int s0, .int s1, .ref 10, .ref 16] jR0 w := by
  rw [f_State_isCounting_j27] at h
  obtain ⟨q2, hq2, h⟩ := jbe h
  refine ev_callV (ci := 8) (a := 16) (y2 := y_Treaty_look) (o := 6) (idx := 106) (d2 := d_Treaty_look) (n := 3) (mc2 := 0) (ms2 := 0) (As := [.ref 10, .int s1, .int s0]) (st := []) (res2 := (none, jR0, q2)) (by decide +kernel) rfl lk_6_106 mo_Treaty_look mv_Treaty_look ⟨Nat.le_of_ble_eq_true rfl, Nat.le_of_ble_eq_true rfl⟩ rfl rfl kz_16 (by decide) rfl (Nat.le_of_ble_eq_true rfl) ⟨Nat.le_refl _, Nat.le_refl _⟩ hG (e_Treaty_look hG kz_10 hq2) ?_
  refine ev_seg (o := 6) (nL := 4) (q := 32) (xs := [(.iload_n 1, 1, 1, 0, .null), (.iconst (-1), 1, 0, 0, .int (-1))]) (L' := [some (.ref 3), some (.int x1), none, none]) (st' := [.int (-1), .int x1]) (w' := q2) (g := []) (K := []) (by decide +kernel) rfl rfl rfl rfl jk0 ?_
  refine ev_icmp_eq (off := 15) (tgt := 47) (by decide +kernel) (by decide) (fun c5 => ?_) (fun c5 => ?_)
  · replace h := jpos c5 h
    refine ev_seg (o := 6) (nL := 4) (q := 52) (xs := [(.iconst 1, 1, 0, 0, .int 1), (.goto 4, 3, 0, 0, .null)]) (L' := [some (.ref 3), some (.int x1), none, none]) (st' := [.int 1]) (w' := q2) (g := []) (K := []) (by decide +kernel) rfl rfl rfl rfl jk0 ?_
    cases h
    exact ev_zret (by decide +kernel) rfl rfl rfl rfl rfl
  · replace h := jneg c5 h
    refine ev_seg (o := 6) (nL := 4) (q := 41) (xs := [(.aload_n 0, 1, 0, 0, .null), (.getfield 54, 3, 6, 11, .ref 8), (.iload_n 1, 1, 1, 0, .null), (.iconst 0, 1, 0, 0, .int 0)]) (L' := [some (.ref 3), some (.int x1), none, none]) (st' := [.int 0, .int x1, .ref 16]) (w' := q2) (g := []) (K := [(16, 8), (3, 6)]) (by decide +kernel) rfl rfl rfl rfl (jk1 kz_16 (jk1 kz_3 jk0)) ?_
    obtain ⟨q3, hq3, h⟩ := jbe h
    refine ev_callV (ci := 8) (a := 16) (y2 := y_Treaty_someHolds) (o := 6) (idx := 110) (d2 := d_Treaty_someHolds) (n := 2) (mc2 := 0) (ms2 := 0) (As := [.int x1, .int 0]) (st := []) (res2 := (some (.int q3.1), jR0, q3.2)) (by decide +kernel) rfl lk_6_110 mo_Treaty_someHolds mv_Treaty_someHolds ⟨Nat.le_of_ble_eq_true rfl, Nat.le_of_ble_eq_true rfl⟩ rfl rfl kz_16 (by decide) rfl (Nat.le_of_ble_eq_true rfl) ⟨Nat.le_refl _, Nat.le_refl _⟩ hG (e_Treaty_someHolds hG hq3) ?_
    refine ev_if_eq (off := 7) (tgt := 51) (by decide +kernel) (by decide) (fun c4 => ?_) (fun c4 => ?_)
    · replace h := jpos c4 h
      refine ev_seg (o := 6) (nL := 4) (q := 52) (xs := [(.iconst 0, 1, 0, 0, .int 0)]) (L' := [some (.ref 3), some (.int x1), none, none]) (st' := [.int 0]) (w' := q3.2) (g := []) (K := []) (by decide +kernel) rfl rfl rfl rfl jk0 ?_
      cases h
      exact ev_zret (by decide +kernel) rfl rfl rfl rfl rfl
    · replace h := jneg c4 h
      refine ev_seg (o := 6) (nL := 4) (q := 52) (xs := [(.iconst 1, 1, 0, 0, .int 1), (.goto 4, 3, 0, 0, .null)]) (L' := [some (.ref 3), some (.int x1), none, none]) (st' := [.int 1]) (w' := q3.2) (g := []) (K := []) (by decide +kernel) rfl rfl rfl rfl jk0 ?_
      cases h
      exact ev_zret (by decide +kernel) rfl rfl rfl rfl rfl
def f_State_isCounting (x1 : Int32) (x2 : Int32) (x3 : Int32) (w : jW) : Option (Int32 × jW) :=
  if x3 = (-1) then
    f_State_isCounting_j27 x1 4 x2 w
  else
    Option.bind (f_Rows_at 6 x3 1 w) fun q1 =>
    f_State_isCounting_j27 x1 q1.1 x2 q1.2
set_option maxRecDepth 20000 in
theorem e_State_isCounting {l : Launch} {G : jG} (hG : jX G) {x1 : Int32} {x2 : Int32} {x3 : Int32} {w : jW} {z : (Int32 × jW)} (h : f_State_isCounting x1 x2 x3 w = some z) : Ct l G y_State_isCounting d_State_isCounting 0 0 [.ref 3, .int x1, .int x2, .int x3] jR0 w (some (.int z.1), jR0, z.2) := by
  rw [f_State_isCounting] at h
  refine Ct.of (L := [some (.ref 3), some (.int x1), some (.int x2), some (.int x3)]) (by decide) (Nat.le_of_ble_eq_true rfl) rfl ?_
  refine ev_seg (o := 6) (nL := 4) (q := 11) (xs := [(.aload_n 0, 1, 0, 0, .null), (.getfield 54, 3, 6, 11, .ref 8), (.aload_n 0, 1, 0, 0, .null), (.getfield 42, 3, 6, 8, .ref 3), (.iload_n 2, 1, 2, 0, .null), (.iload_n 3, 1, 3, 0, .null), (.iconst (-1), 1, 0, 0, .int (-1))]) (L' := [some (.ref 3), some (.int x1), some (.int x2), some (.int x3)]) (st' := [.int (-1), .int x3, .int x2, .ref 10, .ref 16]) (w' := w) (g := []) (K := [(10, 3), (3, 6), (16, 8), (3, 6)]) (by decide +kernel) rfl rfl rfl rfl (jk1 kz_10 (jk1 kz_3 (jk1 kz_16 (jk1 kz_3 jk0)))) ?_
  refine ev_icmp_ne (off := 7) (tgt := 18) (by decide +kernel) (by decide) (fun c6 => ?_) (fun c6 => ?_)
  · replace h := jneg c6 h
    refine ev_seg (o := 6) (nL := 4) (q := 24) (xs := [(.aload_n 0, 1, 0, 0, .null), (.getfield 36, 3, 6, 6, .ref 3), (.iload_n 3, 1, 3, 0, .null), (.iconst 1, 1, 0, 0, .int 1)]) (L' := [some (.ref 3), some (.int x1), some (.int x2), some (.int x3)]) (st' := [.int 1, .int x3, .ref 6, .int x2, .ref 10, .ref 16]) (w' := w) (g := []) (K := [(6, 3), (3, 6)]) (by decide +kernel) rfl rfl rfl rfl (jk1 kz_6 (jk1 kz_3 jk0)) ?_
    obtain ⟨q1, hq1, h⟩ := jbe h
    refine ev_callV (ci := 3) (a := 6) (y2 := y_Rows_at) (o := 6) (idx := 91) (d2 := d_Rows_at) (n := 2) (mc2 := 0) (ms2 := 0) (As := [.int x3, .int 1]) (st := [.int x2, .ref 10, .ref 16]) (res2 := (some (.int q1.1), jR0, q1.2)) (by decide +kernel) rfl lk_6_91 mo_Rows_at mv_Rows_at ⟨Nat.le_of_ble_eq_true rfl, Nat.le_of_ble_eq_true rfl⟩ rfl rfl kz_6 (by decide) rfl (Nat.le_of_ble_eq_true rfl) ⟨Nat.le_refl _, Nat.le_refl _⟩ hG (e_Rows_at hG kz_6 hq1) ?_
    refine ev_mask [true, true, false, false] ?_
    exact t_State_isCounting_j27 hG h
  · replace h := jpos c6 h
    refine ev_seg (o := 6) (nL := 4) (q := 27) (xs := [(.iconst 4, 1, 0, 0, .int 4), (.goto 12, 3, 0, 0, .null)]) (L' := [some (.ref 3), some (.int x1), some (.int x2), some (.int x3)]) (st' := [.int 4, .int x2, .ref 10, .ref 16]) (w' := w) (g := []) (K := []) (by decide +kernel) rfl rfl rfl rfl jk0 ?_
    refine ev_mask [true, true, false, false] ?_
    exact t_State_isCounting_j27 hG h
def f_Count_counts_j33 (x1 : Int32) (x2 : Int32) (x3 : Int32) (w : jW) : Option (Int32 × jW) :=
  Option.bind (f_State_isDay x3 w) fun q2 =>
  if q2.1 = 0 then
    some ((-1), q2.2)
  else
    Option.bind (f_Treaty_textFor 0 x3 q2.2) fun q3 =>
    Option.bind (f_State_isCounting q3.1 x1 x2 q3.2) fun q4 =>
    if q4.1 = 0 then
      some (0, q4.2)
    else
      some (1, q4.2)
set_option maxRecDepth 20000 in
theorem t_Count_counts_j33 {l : Launch} {G : jG} (hG : jX G) {x1 : Int32} {x2 : Int32} {x3 : Int32} {w : jW} {z : (Int32 × jW)} (h : f_Count_counts_j33 x1 x2 x3 w = some z) : Ev l G (jrm d_Count_counts 0 0) y_Count_counts (some (.int z.1), jR0, z.2) 0 0 0 0 33 [some (.ref 2), some (.int x1), some (.int x2), some (.int x3)] [] jR0 w := by
  rw [f_Count_counts_j33] at h
  refine ev_seg (o := 9) (nL := 4) (q := 34) (xs := [(.iload_n 3, 1, 3, 0, .null)]) (L' := [some (.ref 2), some (.int x1), some (.int x2), some (.int x3)]) (st' := [.int x3]) (w' := w) (g := []) (K := []) (by decide +kernel) rfl rfl rfl rfl jk0 ?_
  obtain ⟨q2, hq2, h⟩ := jbe h
  refine ev_callS (y2 := y_State_isDay) (o := 9) (idx := 151) (d2 := d_State_isDay) (n := 1) (mc2 := 0) (ms2 := 0) (As := [.int x3]) (st := []) (res2 := (some (.int q2.1), jR0, q2.2)) (by decide +kernel) rfl lk_9_151 mo_State_isDay ms_State_isDay ⟨Nat.le_of_ble_eq_true rfl, Nat.le_of_ble_eq_true rfl⟩ rfl rfl (Nat.le_of_ble_eq_true rfl) ⟨Nat.le_refl _, Nat.le_refl _⟩ hG (e_State_isDay hG hq2) ?_
  refine ev_if_ne (off := 5) (tgt := 42) (by decide +kernel) (by decide) (fun c6 => ?_) (fun c6 => ?_)
  · replace h := jneg c6 h
    refine ev_seg (o := 9) (nL := 4) (q := 55) (xs := [(.aload_n 0, 1, 0, 0, .null), (.getfield 12, 3, 9, 0, .ref 6), (.aload_n 0, 1, 0, 0, .null), (.getfield 12, 3, 9, 0, .ref 6), (.getfield 132, 3, 6, 11, .ref 8), (.iconst 0, 1, 0, 0, .int 0), (.iload_n 3, 1, 3, 0, .null)]) (L' := [some (.ref 2), some (.int x1), some (.int x2), some (.int x3)]) (st' := [.int x3, .int 0, .ref 16, .ref 3]) (w' := q2.2) (g := []) (K := [(16, 8), (3, 6), (3, 6), (2, 9), (3, 6), (2, 9)]) (by decide +kernel) rfl rfl rfl rfl (jk1 kz_16 (jk1 kz_3 (jk1 kz_3 (jk1 kz_2 (jk1 kz_3 (jk1 kz_2 jk0)))))) ?_
    obtain ⟨q3, hq3, h⟩ := jbe h
    refine ev_callV (ci := 8) (a := 16) (y2 := y_Treaty_textFor) (o := 9) (idx := 193) (d2 := d_Treaty_textFor) (n := 2) (mc2 := 0) (ms2 := 0) (As := [.int 0, .int x3]) (st := [.ref 3]) (res2 := (some (.int q3.1), jR0, q3.2)) (by decide +kernel) rfl lk_9_193 mo_Treaty_textFor mv_Treaty_textFor ⟨Nat.le_of_ble_eq_true rfl, Nat.le_of_ble_eq_true rfl⟩ rfl rfl kz_16 (by decide) rfl (Nat.le_of_ble_eq_true rfl) ⟨Nat.le_refl _, Nat.le_refl _⟩ hG (e_Treaty_textFor hG hq3) ?_
    refine ev_seg (o := 9) (nL := 4) (q := 60) (xs := [(.iload_n 1, 1, 1, 0, .null), (.iload_n 2, 1, 2, 0, .null)]) (L' := [some (.ref 2), some (.int x1), some (.int x2), some (.int x3)]) (st' := [.int x2, .int x1, .int q3.1, .ref 3]) (w' := q3.2) (g := []) (K := []) (by decide +kernel) rfl rfl rfl rfl jk0 ?_
    obtain ⟨q4, hq4, h⟩ := jbe h
    refine ev_callV (ci := 6) (a := 3) (y2 := y_State_isCounting) (o := 9) (idx := 196) (d2 := d_State_isCounting) (n := 3) (mc2 := 0) (ms2 := 0) (As := [.int q3.1, .int x1, .int x2]) (st := []) (res2 := (some (.int q4.1), jR0, q4.2)) (by decide +kernel) rfl lk_9_196 mo_State_isCounting mv_State_isCounting ⟨Nat.le_of_ble_eq_true rfl, Nat.le_of_ble_eq_true rfl⟩ rfl rfl kz_3 (by decide) rfl (Nat.le_of_ble_eq_true rfl) ⟨Nat.le_refl _, Nat.le_refl _⟩ hG (e_State_isCounting hG hq4) ?_
    refine ev_if_eq (off := 7) (tgt := 70) (by decide +kernel) (by decide) (fun c5 => ?_) (fun c5 => ?_)
    · replace h := jpos c5 h
      refine ev_seg (o := 9) (nL := 4) (q := 71) (xs := [(.iconst 0, 1, 0, 0, .int 0)]) (L' := [some (.ref 2), some (.int x1), some (.int x2), some (.int x3)]) (st' := [.int 0]) (w' := q4.2) (g := []) (K := []) (by decide +kernel) rfl rfl rfl rfl jk0 ?_
      cases h
      exact ev_iret (by decide +kernel) rfl rfl rfl rfl
    · replace h := jneg c5 h
      refine ev_seg (o := 9) (nL := 4) (q := 71) (xs := [(.iconst 1, 1, 0, 0, .int 1), (.goto 4, 3, 0, 0, .null)]) (L' := [some (.ref 2), some (.int x1), some (.int x2), some (.int x3)]) (st' := [.int 1]) (w' := q4.2) (g := []) (K := []) (by decide +kernel) rfl rfl rfl rfl jk0 ?_
      cases h
      exact ev_iret (by decide +kernel) rfl rfl rfl rfl
  · replace h := jpos c6 h
    refine ev_seg (o := 9) (nL := 4) (q := 41) (xs := [(.iconst (-1), 1, 0, 0, .int (-1))]) (L' := [some (.ref 2), some (.int x1), some (.int x2), some (.int x3)]) (st' := [.int (-1)]) (w' := q2.2) (g := []) (K := []) (by decide +kernel) rfl rfl rfl rfl jk0 ?_
    cases h
    exact ev_iret (by decide +kernel) rfl rfl rfl rfl
def f_Count_counts (x1 : Int32) (x2 : Int32) (x3 : Int32) (w : jW) : Option (Int32 × jW) :=
  Option.bind (f_Rows_has 10 x1 w) fun q1 =>
  if q1.1 = 0 then
    some ((-1), q1.2)
  else
    if x2 = (-1) then
      f_Count_counts_j33 x1 x2 x3 q1.2
    else
      Option.bind (f_Rows_has 6 x2 q1.2) fun q7 =>
      if q7.1 = 0 then
        some ((-1), q7.2)
      else
        f_Count_counts_j33 x1 x2 x3 q7.2
set_option maxRecDepth 20000 in
theorem e_Count_counts {l : Launch} {G : jG} (hG : jX G) {x1 : Int32} {x2 : Int32} {x3 : Int32} {w : jW} {z : (Int32 × jW)} (h : f_Count_counts x1 x2 x3 w = some z) : Ct l G y_Count_counts d_Count_counts 0 0 [.ref 2, .int x1, .int x2, .int x3] jR0 w (some (.int z.1), jR0, z.2) := by
  rw [f_Count_counts] at h
  refine Ct.of (L := [some (.ref 2), some (.int x1), some (.int x2), some (.int x3)]) (by decide) (Nat.le_of_ble_eq_true rfl) rfl ?_
  refine ev_seg (o := 9) (nL := 4) (q := 8) (xs := [(.aload_n 0, 1, 0, 0, .null), (.getfield 12, 3, 9, 0, .ref 6), (.getfield 100, 3, 6, 8, .ref 3), (.iload_n 1, 1, 1, 0, .null)]) (L' := [some (.ref 2), some (.int x1), some (.int x2), some (.int x3)]) (st' := [.int x1, .ref 10]) (w' := w) (g := []) (K := [(10, 3), (3, 6), (3, 6), (2, 9)]) (by decide +kernel) rfl rfl rfl rfl (jk1 kz_10 (jk1 kz_3 (jk1 kz_3 (jk1 kz_2 jk0)))) ?_
  obtain ⟨q1, hq1, h⟩ := jbe h
  refine ev_callV (ci := 3) (a := 10) (y2 := y_Rows_has) (o := 9) (idx := 80) (d2 := d_Rows_has) (n := 1) (mc2 := 0) (ms2 := 0) (As := [.int x1]) (st := []) (res2 := (some (.int q1.1), jR0, q1.2)) (by decide +kernel) rfl lk_9_80 mo_Rows_has mv_Rows_has ⟨Nat.le_of_ble_eq_true rfl, Nat.le_of_ble_eq_true rfl⟩ rfl rfl kz_10 (by decide) rfl (Nat.le_of_ble_eq_true rfl) ⟨Nat.le_refl _, Nat.le_refl _⟩ hG (e_Rows_has hG kz_10 hq1) ?_
  refine ev_if_eq (off := 29) (tgt := 40) (by decide +kernel) (by decide) (fun c10 => ?_) (fun c10 => ?_)
  · replace h := jpos c10 h
    refine ev_seg (o := 9) (nL := 4) (q := 41) (xs := [(.iconst (-1), 1, 0, 0, .int (-1))]) (L' := [some (.ref 2), some (.int x1), some (.int x2), some (.int x3)]) (st' := [.int (-1)]) (w' := q1.2) (g := []) (K := []) (by decide +kernel) rfl rfl rfl rfl jk0 ?_
    cases h
    exact ev_iret (by decide +kernel) rfl rfl rfl rfl
  · replace h := jneg c10 h
    refine ev_seg (o := 9) (nL := 4) (q := 16) (xs := [(.iload_n 2, 1, 2, 0, .null), (.iconst (-1), 1, 0, 0, .int (-1))]) (L' := [some (.ref 2), some (.int x1), some (.int x2), some (.int x3)]) (st' := [.int (-1), .int x2]) (w' := q1.2) (g := []) (K := []) (by decide +kernel) rfl rfl rfl rfl jk0 ?_
    refine ev_icmp_eq (off := 17) (tgt := 33) (by decide +kernel) (by decide) (fun c9 => ?_) (fun c9 => ?_)
    · replace h := jpos c9 h
      refine ev_mask [true, true, true, true] ?_
      exact t_Count_counts_j33 hG h
    · replace h := jneg c9 h
      refine ev_seg (o := 9) (nL := 4) (q := 27) (xs := [(.aload_n 0, 1, 0, 0, .null), (.getfield 12, 3, 9, 0, .ref 6), (.getfield 58, 3, 6, 6, .ref 3), (.iload_n 2, 1, 2, 0, .null)]) (L' := [some (.ref 2), some (.int x1), some (.int x2), some (.int x3)]) (st' := [.int x2, .ref 6]) (w' := q1.2) (g := []) (K := [(6, 3), (3, 6), (3, 6), (2, 9)]) (by decide +kernel) rfl rfl rfl rfl (jk1 kz_6 (jk1 kz_3 (jk1 kz_3 (jk1 kz_2 jk0)))) ?_
      obtain ⟨q7, hq7, h⟩ := jbe h
      refine ev_callV (ci := 3) (a := 6) (y2 := y_Rows_has) (o := 9) (idx := 80) (d2 := d_Rows_has) (n := 1) (mc2 := 0) (ms2 := 0) (As := [.int x2]) (st := []) (res2 := (some (.int q7.1), jR0, q7.2)) (by decide +kernel) rfl lk_9_80 mo_Rows_has mv_Rows_has ⟨Nat.le_of_ble_eq_true rfl, Nat.le_of_ble_eq_true rfl⟩ rfl rfl kz_6 (by decide) rfl (Nat.le_of_ble_eq_true rfl) ⟨Nat.le_refl _, Nat.le_refl _⟩ hG (e_Rows_has hG kz_6 hq7) ?_
      refine ev_if_eq (off := 10) (tgt := 40) (by decide +kernel) (by decide) (fun c8 => ?_) (fun c8 => ?_)
      · replace h := jpos c8 h
        refine ev_seg (o := 9) (nL := 4) (q := 41) (xs := [(.iconst (-1), 1, 0, 0, .int (-1))]) (L' := [some (.ref 2), some (.int x1), some (.int x2), some (.int x3)]) (st' := [.int (-1)]) (w' := q7.2) (g := []) (K := []) (by decide +kernel) rfl rfl rfl rfl jk0 ?_
        cases h
        exact ev_iret (by decide +kernel) rfl rfl rfl rfl
      · replace h := jneg c8 h
        refine ev_mask [true, true, true, true] ?_
        exact t_Count_counts_j33 hG h
def f_State_numberCounting_j75 (k16 : Int32 → Int32 → Int32 → Int32 → Int32 → jW → Option (Int32 × jW)) (x1 : Int32) (x2 : Int32) (x3 : Int32) (x4 : Int32) (x5 : Int32) (s0 : Int32) (s1 : Int32) (s2 : Int32) (w : jW) : Option (Int32 × jW) :=
  Option.bind (f_State_isCounting s2 s1 s0 w) fun q5 =>
  if q5.1 = 0 then
    k16 x1 x2 x3 x4 (x5 + 1) q5.2
  else
    k16 x1 x2 x3 (x4 + 1) (x5 + 1) q5.2
set_option maxRecDepth 20000 in
theorem t_State_numberCounting_j75 {l : Launch} {G : jG} (hG : jX G) {k16 : Int32 → Int32 → Int32 → Int32 → Int32 → jW → Option (Int32 × jW)} (hk16 : ∀ (x1 : Int32) (x2 : Int32) (x3 : Int32) (x4 : Int32) (x5 : Int32) (w : jW) (z : (Int32 × jW)), k16 x1 x2 x3 x4 x5 w = some z → Ev l G (jrm d_State_numberCounting 0 0) y_State_numberCounting (some (.int z.1), jR0, z.2) 0 0 0 0 16 [some (.ref 3), some (.int x1), some (.int x2), some (.int x3), some (.int x4), some (.int x5), none] [] jR0 w) {x1 : Int32} {x2 : Int32} {x3 : Int32} {x4 : Int32} {x5 : Int32} {s0 : Int32} {s1 : Int32} {s2 : Int32} {w : jW} {z : (Int32 × jW)} (h : f_State_numberCounting_j75 k16 x1 x2 x3 x4 x5 s0 s1 s2 w = some z) : Ev l G (jrm d_State_numberCounting 0 0) y_State_numberCounting (some (.int z.1), jR0, z.2) 0 0 0 0 75 [some (.ref 3), some (.int x1), some (.int x2), some (.int x3), some (.int x4), some (.int x5), none] [.int s0, .int s1, .int s2, .ref 3] jR0 w := by
  rw [f_State_numberCounting_j75] at h
  obtain ⟨q5, hq5, h⟩ := jbe h
  refine ev_callV (ci := 6) (a := 3) (y2 := y_State_isCounting) (o := 6) (idx := 119) (d2 := d_State_isCounting) (n := 3) (mc2 := 0) (ms2 := 0) (As := [.int s2, .int s1, .int s0]) (st := []) (res2 := (some (.int q5.1), jR0, q5.2)) (by decide +kernel) rfl lk_6_119 mo_State_isCounting mv_State_isCounting ⟨Nat.le_of_ble_eq_true rfl, Nat.le_of_ble_eq_true rfl⟩ rfl rfl kz_3 (by decide) rfl (Nat.le_of_ble_eq_true rfl) ⟨Nat.le_refl _, Nat.le_refl _⟩ hG (e_State_isCounting hG hq5) ?_
  refine ev_if_eq (off := 6) (tgt := 84) (by decide +kernel) (by decide) (fun c6 => ?_) (fun c6 => ?_)
  · replace h := jpos c6 h
    refine ev_seg (o := 6) (nL := 7) (q := 16) (xs := [(.iinc 5 1, 3, 5, 0, .int 1), (.goto (-71), 3, 0, 0, .null)]) (L' := [some (.ref 3), some (.int x1), some (.int x2), some (.int x3), some (.int x4), some (.int (x5 + 1)), none]) (st' := []) (w' := q5.2) (g := []) (K := []) (by decide +kernel) rfl rfl rfl rfl jk0 ?_
    refine ev_mask [true, true, true, true, true, true, false] ?_
    exact hk16 _ _ _ _ _ _ _ h
  · replace h := jneg c6 h
    refine ev_seg (o := 6) (nL := 7) (q := 16) (xs := [(.iinc 4 1, 3, 4, 0, .int 1), (.iinc 5 1, 3, 5, 0, .int 1), (.goto (-71), 3, 0, 0, .null)]) (L' := [some (.ref 3), some (.int x1), some (.int x2), some (.int x3), some (.int (x4 + 1)), some (.int (x5 + 1)), none]) (st' := []) (w' := q5.2) (g := []) (K := []) (by decide +kernel) rfl rfl rfl rfl jk0 ?_
    refine ev_mask [true, true, true, true, true, true, false] ?_
    exact hk16 _ _ _ _ _ _ _ h
def f_State_numberCounting_h16 : Nat → Int32 → Int32 → Int32 → Int32 → Int32 → jW → Option (Int32 × jW)
  | 0, _, _, _, _, _, _ => none
  | n + 1, x1, x2, x3, x4, x5, w =>
  Option.bind (f_Rows_count 10 w) fun q2 =>
  if x5 < q2.1 then
    Option.bind (f_Rows_at 10 x5 3 q2.2) fun q3 =>
    if q3.1 = x1 then
      Option.bind (f_State_placeOn x5 x2 q3.2) fun q4 =>
      if q4.1 ≤ 100 then
        if q4.1 = 100 then
          f_State_numberCounting_j75 (f_State_numberCounting_h16 n) x1 x2 x3 x4 x5 (-1) x5 x3 q4.2
        else
          f_State_numberCounting_j75 (f_State_numberCounting_h16 n) x1 x2 x3 x4 x5 q4.1 x5 x3 q4.2
      else
        (f_State_numberCounting_h16 n) x1 x2 x3 x4 (x5 + 1) q4.2
    else
      (f_State_numberCounting_h16 n) x1 x2 x3 x4 (x5 + 1) q3.2
  else
    some (x4, q2.2)
set_option maxRecDepth 20000 in
theorem t_State_numberCounting_h16 {l : Launch} {G : jG} (hG : jX G) : ∀ (n : Nat) (x1 : Int32) (x2 : Int32) (x3 : Int32) (x4 : Int32) (x5 : Int32) (w : jW) (z : (Int32 × jW)), f_State_numberCounting_h16 n x1 x2 x3 x4 x5 w = some z → Ev l G (jrm d_State_numberCounting 0 0) y_State_numberCounting (some (.int z.1), jR0, z.2) 0 0 0 0 16 [some (.ref 3), some (.int x1), some (.int x2), some (.int x3), some (.int x4), some (.int x5), none] [] jR0 w := by
  intro n
  induction n with
  | zero => intro x1 x2 x3 x4 x5 w z h; simp only [f_State_numberCounting_h16] at h; cases h
  | succ n ih =>
    intro x1 x2 x3 x4 x5 w z h
    rw [f_State_numberCounting_h16] at h
    refine ev_seg (o := 6) (nL := 7) (q := 22) (xs := [(.iload 5, 2, 5, 0, .null), (.aload_n 0, 1, 0, 0, .null), (.getfield 42, 3, 6, 8, .ref 3)]) (L' := [some (.ref 3), some (.int x1), some (.int x2), some (.int x3), some (.int x4), some (.int x5), none]) (st' := [.ref 10, .int x5]) (w' := w) (g := []) (K := [(10, 3), (3, 6)]) (by decide +kernel) rfl rfl rfl rfl (jk1 kz_10 (jk1 kz_3 jk0)) ?_
    obtain ⟨q2, hq2, h⟩ := jbe h
    refine ev_callV (ci := 3) (a := 10) (y2 := y_Rows_count) (o := 6) (idx := 87) (d2 := d_Rows_count) (n := 0) (mc2 := 0) (ms2 := 0) (As := []) (st := [.int x5]) (res2 := (some (.int q2.1), jR0, q2.2)) (by decide +kernel) rfl lk_6_87 mo_Rows_count mv_Rows_count ⟨Nat.le_of_ble_eq_true rfl, Nat.le_of_ble_eq_true rfl⟩ rfl rfl kz_10 (by decide) rfl (Nat.le_of_ble_eq_true rfl) ⟨Nat.le_refl _, Nat.le_refl _⟩ hG (e_Rows_count hG kz_10 hq2) ?_
    refine ev_icmp_ge (off := 65) (tgt := 90) (by decide +kernel) (by decide) (fun c10 => ?_) (fun c10 => ?_)
    · replace h := jneg c10 h
      refine ev_seg (o := 6) (nL := 7) (q := 92) (xs := [(.iload 4, 2, 4, 0, .null)]) (L' := [some (.ref 3), some (.int x1), some (.int x2), some (.int x3), some (.int x4), some (.int x5), none]) (st' := [.int x4]) (w' := q2.2) (g := []) (K := []) (by decide +kernel) rfl rfl rfl rfl jk0 ?_
      cases h
      exact ev_iret (by decide +kernel) rfl rfl rfl rfl
    · replace h := jpos c10 h
      refine ev_seg (o := 6) (nL := 7) (q := 35) (xs := [(.aload_n 0, 1, 0, 0, .null), (.getfield 42, 3, 6, 8, .ref 3), (.iload 5, 2, 5, 0, .null), (.iconst 3, 1, 0, 0, .int 3)]) (L' := [some (.ref 3), some (.int x1), some (.int x2), some (.int x3), some (.int x4), some (.int x5), none]) (st' := [.int 3, .int x5, .ref 10]) (w' := q2.2) (g := []) (K := [(10, 3), (3, 6)]) (by decide +kernel) rfl rfl rfl rfl (jk1 kz_10 (jk1 kz_3 jk0)) ?_
      obtain ⟨q3, hq3, h⟩ := jbe h
      refine ev_callV (ci := 3) (a := 10) (y2 := y_Rows_at) (o := 6) (idx := 91) (d2 := d_Rows_at) (n := 2) (mc2 := 0) (ms2 := 0) (As := [.int x5, .int 3]) (st := []) (res2 := (some (.int q3.1), jR0, q3.2)) (by decide +kernel) rfl lk_6_91 mo_Rows_at mv_Rows_at ⟨Nat.le_of_ble_eq_true rfl, Nat.le_of_ble_eq_true rfl⟩ rfl rfl kz_10 (by decide) rfl (Nat.le_of_ble_eq_true rfl) ⟨Nat.le_refl _, Nat.le_refl _⟩ hG (e_Rows_at hG kz_10 hq3) ?_
      refine ev_seg (o := 6) (nL := 7) (q := 39) (xs := [(.iload_n 1, 1, 1, 0, .null)]) (L' := [some (.ref 3), some (.int x1), some (.int x2), some (.int x3), some (.int x4), some (.int x5), none]) (st' := [.int x1, .int q3.1]) (w' := q3.2) (g := []) (K := []) (by decide +kernel) rfl rfl rfl rfl jk0 ?_
      refine ev_icmp_ne (off := 45) (tgt := 84) (by decide +kernel) (by decide) (fun c9 => ?_) (fun c9 => ?_)
      · replace h := jneg c9 h
        refine ev_seg (o := 6) (nL := 7) (q := 16) (xs := [(.iinc 5 1, 3, 5, 0, .int 1), (.goto (-71), 3, 0, 0, .null)]) (L' := [some (.ref 3), some (.int x1), some (.int x2), some (.int x3), some (.int x4), some (.int (x5 + 1)), none]) (st' := []) (w' := q3.2) (g := []) (K := []) (by decide +kernel) rfl rfl rfl rfl jk0 ?_
        refine ev_mask [true, true, true, true, true, true, false] ?_
        exact ih _ _ _ _ _ _ _ h
      · replace h := jpos c9 h
        refine ev_seg (o := 6) (nL := 7) (q := 46) (xs := [(.aload_n 0, 1, 0, 0, .null), (.iload 5, 2, 5, 0, .null), (.iload_n 2, 1, 2, 0, .null)]) (L' := [some (.ref 3), some (.int x1), some (.int x2), some (.int x3), some (.int x4), some (.int x5), none]) (st' := [.int x2, .int x5, .ref 3]) (w' := q3.2) (g := []) (K := []) (by decide +kernel) rfl rfl rfl rfl jk0 ?_
        obtain ⟨q4, hq4, h⟩ := jbe h
        refine ev_callV (ci := 6) (a := 3) (y2 := y_State_placeOn) (o := 6) (idx := 116) (d2 := d_State_placeOn) (n := 2) (mc2 := 0) (ms2 := 0) (As := [.int x5, .int x2]) (st := []) (res2 := (some (.int q4.1), jR0, q4.2)) (by decide +kernel) rfl lk_6_116 mo_State_placeOn mv_State_placeOn ⟨Nat.le_of_ble_eq_true rfl, Nat.le_of_ble_eq_true rfl⟩ rfl rfl kz_3 (by decide) rfl (Nat.le_of_ble_eq_true rfl) ⟨Nat.le_refl _, Nat.le_refl _⟩ hG (e_State_placeOn hG hq4) ?_
        refine ev_seg (o := 6) (nL := 7) (q := 55) (xs := [(.istore 6, 2, 6, 0, .null), (.iload 6, 2, 6, 0, .null), (.bipush 100, 2, 0, 0, .int 100)]) (L' := [some (.ref 3), some (.int x1), some (.int x2), some (.int x3), some (.int x4), some (.int x5), some (.int q4.1)]) (st' := [.int 100, .int q4.1]) (w' := q4.2) (g := []) (K := []) (by decide +kernel) rfl rfl rfl rfl jk0 ?_
        refine ev_icmp_gt (off := 29) (tgt := 84) (by decide +kernel) (by decide) (fun c8 => ?_) (fun c8 => ?_)
        · replace h := jneg c8 h
          refine ev_seg (o := 6) (nL := 7) (q := 16) (xs := [(.iinc 5 1, 3, 5, 0, .int 1), (.goto (-71), 3, 0, 0, .null)]) (L' := [some (.ref 3), some (.int x1), some (.int x2), some (.int x3), some (.int x4), some (.int (x5 + 1)), some (.int q4.1)]) (st' := []) (w' := q4.2) (g := []) (K := []) (by decide +kernel) rfl rfl rfl rfl jk0 ?_
          refine ev_mask [true, true, true, true, true, true, false] ?_
          exact ih _ _ _ _ _ _ _ h
        · replace h := jpos c8 h
          refine ev_seg (o := 6) (nL := 7) (q := 66) (xs := [(.aload_n 0, 1, 0, 0, .null), (.iload_n 3, 1, 3, 0, .null), (.iload 5, 2, 5, 0, .null), (.iload 6, 2, 6, 0, .null), (.bipush 100, 2, 0, 0, .int 100)]) (L' := [some (.ref 3), some (.int x1), some (.int x2), some (.int x3), some (.int x4), some (.int x5), some (.int q4.1)]) (st' := [.int 100, .int q4.1, .int x5, .int x3, .ref 3]) (w' := q4.2) (g := []) (K := []) (by decide +kernel) rfl rfl rfl rfl jk0 ?_
          refine ev_icmp_ne (off := 7) (tgt := 73) (by decide +kernel) (by decide) (fun c7 => ?_) (fun c7 => ?_)
          · replace h := jneg c7 h
            refine ev_seg (o := 6) (nL := 7) (q := 75) (xs := [(.iload 6, 2, 6, 0, .null)]) (L' := [some (.ref 3), some (.int x1), some (.int x2), some (.int x3), some (.int x4), some (.int x5), some (.int q4.1)]) (st' := [.int q4.1, .int x5, .int x3, .ref 3]) (w' := q4.2) (g := []) (K := []) (by decide +kernel) rfl rfl rfl rfl jk0 ?_
            refine ev_mask [true, true, true, true, true, true, false] ?_
            exact t_State_numberCounting_j75 hG ih h
          · replace h := jpos c7 h
            refine ev_seg (o := 6) (nL := 7) (q := 75) (xs := [(.iconst (-1), 1, 0, 0, .int (-1)), (.goto 5, 3, 0, 0, .null)]) (L' := [some (.ref 3), some (.int x1), some (.int x2), some (.int x3), some (.int x4), some (.int x5), some (.int q4.1)]) (st' := [.int (-1), .int x5, .int x3, .ref 3]) (w' := q4.2) (g := []) (K := []) (by decide +kernel) rfl rfl rfl rfl jk0 ?_
            refine ev_mask [true, true, true, true, true, true, false] ?_
            exact t_State_numberCounting_j75 hG ih h
def f_State_numberCounting (x1 : Int32) (x2 : Int32) (w : jW) : Option (Int32 × jW) :=
  Option.bind (f_Treaty_textFor 0 x2 w) fun q1 =>
  f_State_numberCounting_h16 jfu x1 x2 q1.1 0 0 q1.2
set_option maxRecDepth 20000 in
theorem e_State_numberCounting {l : Launch} {G : jG} (hG : jX G) {x1 : Int32} {x2 : Int32} {w : jW} {z : (Int32 × jW)} (h : f_State_numberCounting x1 x2 w = some z) : Ct l G y_State_numberCounting d_State_numberCounting 0 0 [.ref 3, .int x1, .int x2] jR0 w (some (.int z.1), jR0, z.2) := by
  rw [f_State_numberCounting] at h
  refine Ct.of (L := [some (.ref 3), some (.int x1), some (.int x2), none, none, none, none]) (by decide) (Nat.le_of_ble_eq_true rfl) rfl ?_
  refine ev_seg (o := 6) (nL := 7) (q := 6) (xs := [(.aload_n 0, 1, 0, 0, .null), (.getfield 54, 3, 6, 11, .ref 8), (.iconst 0, 1, 0, 0, .int 0), (.iload_n 2, 1, 2, 0, .null)]) (L' := [some (.ref 3), some (.int x1), some (.int x2), none, none, none, none]) (st' := [.int x2, .int 0, .ref 16]) (w' := w) (g := []) (K := [(16, 8), (3, 6)]) (by decide +kernel) rfl rfl rfl rfl (jk1 kz_16 (jk1 kz_3 jk0)) ?_
  obtain ⟨q1, hq1, h⟩ := jbe h
  refine ev_callV (ci := 8) (a := 16) (y2 := y_Treaty_textFor) (o := 6) (idx := 113) (d2 := d_Treaty_textFor) (n := 2) (mc2 := 0) (ms2 := 0) (As := [.int 0, .int x2]) (st := []) (res2 := (some (.int q1.1), jR0, q1.2)) (by decide +kernel) rfl lk_6_113 mo_Treaty_textFor mv_Treaty_textFor ⟨Nat.le_of_ble_eq_true rfl, Nat.le_of_ble_eq_true rfl⟩ rfl rfl kz_16 (by decide) rfl (Nat.le_of_ble_eq_true rfl) ⟨Nat.le_refl _, Nat.le_refl _⟩ hG (e_Treaty_textFor hG hq1) ?_
  refine ev_seg (o := 6) (nL := 7) (q := 16) (xs := [(.istore_n 3, 1, 3, 0, .null), (.iconst 0, 1, 0, 0, .int 0), (.istore 4, 2, 4, 0, .null), (.iconst 0, 1, 0, 0, .int 0), (.istore 5, 2, 5, 0, .null)]) (L' := [some (.ref 3), some (.int x1), some (.int x2), some (.int q1.1), some (.int 0), some (.int 0), none]) (st' := []) (w' := q1.2) (g := []) (K := []) (by decide +kernel) rfl rfl rfl rfl jk0 ?_
  refine ev_mask [true, true, true, true, true, true, false] ?_
  exact t_State_numberCounting_h16 hG jfu _ _ _ _ _ _ _ h
def f_Count_counted (x1 : Int32) (x2 : Int32) (w : jW) : Option (Int32 × jW) :=
  Option.bind (f_State_isLand x1 w) fun q1 =>
  if q1.1 = 0 then
    some ((-1), q1.2)
  else
    Option.bind (f_State_isDay x2 q1.2) fun q2 =>
    if q2.1 = 0 then
      some ((-1), q2.2)
    else
      Option.bind (f_State_numberCounting x1 x2 q2.2) fun q3 =>
      some (q3.1, q3.2)
set_option maxRecDepth 20000 in
theorem e_Count_counted {l : Launch} {G : jG} (hG : jX G) {x1 : Int32} {x2 : Int32} {w : jW} {z : (Int32 × jW)} (h : f_Count_counted x1 x2 w = some z) : Ct l G y_Count_counted d_Count_counted 0 0 [.ref 2, .int x1, .int x2] jR0 w (some (.int z.1), jR0, z.2) := by
  rw [f_Count_counted] at h
  refine Ct.of (L := [some (.ref 2), some (.int x1), some (.int x2)]) (by decide) (Nat.le_of_ble_eq_true rfl) rfl ?_
  refine ev_seg (o := 9) (nL := 3) (q := 1) (xs := [(.iload_n 1, 1, 1, 0, .null)]) (L' := [some (.ref 2), some (.int x1), some (.int x2)]) (st' := [.int x1]) (w' := w) (g := []) (K := []) (by decide +kernel) rfl rfl rfl rfl jk0 ?_
  obtain ⟨q1, hq1, h⟩ := jbe h
  refine ev_callS (y2 := y_State_isLand) (o := 9) (idx := 54) (d2 := d_State_isLand) (n := 1) (mc2 := 0) (ms2 := 0) (As := [.int x1]) (st := []) (res2 := (some (.int q1.1), jR0, q1.2)) (by decide +kernel) rfl lk_9_54 mo_State_isLand ms_State_isLand ⟨Nat.le_of_ble_eq_true rfl, Nat.le_of_ble_eq_true rfl⟩ rfl rfl (Nat.le_of_ble_eq_true rfl) ⟨Nat.le_refl _, Nat.le_refl _⟩ hG (e_State_isLand hG hq1) ?_
  refine ev_if_eq (off := 22) (tgt := 26) (by decide +kernel) (by decide) (fun c5 => ?_) (fun c5 => ?_)
  · replace h := jpos c5 h
    refine ev_seg (o := 9) (nL := 3) (q := 27) (xs := [(.iconst (-1), 1, 0, 0, .int (-1))]) (L' := [some (.ref 2), some (.int x1), some (.int x2)]) (st' := [.int (-1)]) (w' := q1.2) (g := []) (K := []) (by decide +kernel) rfl rfl rfl rfl jk0 ?_
    cases h
    exact ev_iret (by decide +kernel) rfl rfl rfl rfl
  · replace h := jneg c5 h
    refine ev_seg (o := 9) (nL := 3) (q := 8) (xs := [(.iload_n 2, 1, 2, 0, .null)]) (L' := [some (.ref 2), some (.int x1), some (.int x2)]) (st' := [.int x2]) (w' := q1.2) (g := []) (K := []) (by decide +kernel) rfl rfl rfl rfl jk0 ?_
    obtain ⟨q2, hq2, h⟩ := jbe h
    refine ev_callS (y2 := y_State_isDay) (o := 9) (idx := 151) (d2 := d_State_isDay) (n := 1) (mc2 := 0) (ms2 := 0) (As := [.int x2]) (st := []) (res2 := (some (.int q2.1), jR0, q2.2)) (by decide +kernel) rfl lk_9_151 mo_State_isDay ms_State_isDay ⟨Nat.le_of_ble_eq_true rfl, Nat.le_of_ble_eq_true rfl⟩ rfl rfl (Nat.le_of_ble_eq_true rfl) ⟨Nat.le_refl _, Nat.le_refl _⟩ hG (e_State_isDay hG hq2) ?_
    refine ev_if_eq (off := 15) (tgt := 26) (by decide +kernel) (by decide) (fun c4 => ?_) (fun c4 => ?_)
    · replace h := jpos c4 h
      refine ev_seg (o := 9) (nL := 3) (q := 27) (xs := [(.iconst (-1), 1, 0, 0, .int (-1))]) (L' := [some (.ref 2), some (.int x1), some (.int x2)]) (st' := [.int (-1)]) (w' := q2.2) (g := []) (K := []) (by decide +kernel) rfl rfl rfl rfl jk0 ?_
      cases h
      exact ev_iret (by decide +kernel) rfl rfl rfl rfl
    · replace h := jneg c4 h
      refine ev_seg (o := 9) (nL := 3) (q := 20) (xs := [(.aload_n 0, 1, 0, 0, .null), (.getfield 12, 3, 9, 0, .ref 6), (.iload_n 1, 1, 1, 0, .null), (.iload_n 2, 1, 2, 0, .null)]) (L' := [some (.ref 2), some (.int x1), some (.int x2)]) (st' := [.int x2, .int x1, .ref 3]) (w' := q2.2) (g := []) (K := [(3, 6), (2, 9)]) (by decide +kernel) rfl rfl rfl rfl (jk1 kz_3 (jk1 kz_2 jk0)) ?_
      obtain ⟨q3, hq3, h⟩ := jbe h
      refine ev_callV (ci := 6) (a := 3) (y2 := y_State_numberCounting) (o := 9) (idx := 200) (d2 := d_State_numberCounting) (n := 2) (mc2 := 0) (ms2 := 0) (As := [.int x1, .int x2]) (st := []) (res2 := (some (.int q3.1), jR0, q3.2)) (by decide +kernel) rfl lk_9_200 mo_State_numberCounting mv_State_numberCounting ⟨Nat.le_of_ble_eq_true rfl, Nat.le_of_ble_eq_true rfl⟩ rfl rfl kz_3 (by decide) rfl (Nat.le_of_ble_eq_true rfl) ⟨Nat.le_refl _, Nat.le_refl _⟩ hG (e_State_numberCounting hG hq3) ?_
      refine ev_seg (o := 9) (nL := 3) (q := 27) (xs := [(.goto 4, 3, 0, 0, .null)]) (L' := [some (.ref 2), some (.int x1), some (.int x2)]) (st' := [.int q3.1]) (w' := q3.2) (g := []) (K := []) (by decide +kernel) rfl rfl rfl rfl jk0 ?_
      cases h
      exact ev_iret (by decide +kernel) rfl rfl rfl rfl
def f_Count_tell_j116 (x1 : Int32) (x3 : Int32) (x4 : Int32) (x5 : Int32) (s0 : Int32) (s1 : Int32) (s2 : Int32) (w : jW) : Option (Int32 × jW) :=
  Option.bind (f_Rows_put 24 s2 s1 s0 w) fun q5 =>
  Option.bind (f_Rows_put 24 x5 2 x3 q5) fun q6 =>
  Option.bind (f_Rows_put 24 x5 3 (q6.1 3 0) q6) fun q7 =>
  Option.bind (f_State_addAct 3 x4 x1 x5 q7) fun q8 =>
  some (x5, q8)
set_option maxRecDepth 20000 in
theorem t_Count_tell_j116 {l : Launch} {G : jG} (hG : jX G) {x1 : Int32} {x3 : Int32} {x4 : Int32} {x5 : Int32} {s0 : Int32} {s1 : Int32} {s2 : Int32} {w : jW} {z : (Int32 × jW)} (h : f_Count_tell_j116 x1 x3 x4 x5 s0 s1 s2 w = some z) : Ev l G (jrm d_Count_tell 0 0) y_Count_tell (some (.int z.1), jR0, z.2) 0 0 0 0 116 [some (.ref 2), some (.int x1), none, some (.int x3), some (.int x4), some (.int x5)] [.int s0, .int s1, .int s2, .ref 24] jR0 w := by
  rw [f_Count_tell_j116] at h
  obtain ⟨q5, hq5, h⟩ := jbe h
  refine ev_callV (ci := 3) (a := 24) (y2 := y_Rows_put) (o := 9) (idx := 72) (d2 := d_Rows_put) (n := 3) (mc2 := 0) (ms2 := 0) (As := [.int s2, .int s1, .int s0]) (st := []) (res2 := (none, jR0, q5)) (by decide +kernel) rfl lk_9_72 mo_Rows_put mv_Rows_put ⟨Nat.le_of_ble_eq_true rfl, Nat.le_of_ble_eq_true rfl⟩ rfl rfl kz_24 (by decide) rfl (Nat.le_of_ble_eq_true rfl) ⟨Nat.le_refl _, Nat.le_refl _⟩ hG (e_Rows_put hG kz_24 hq5) ?_
  refine ev_seg (o := 9) (nL := 6) (q := 130) (xs := [(.aload_n 0, 1, 0, 0, .null), (.getfield 12, 3, 9, 0, .ref 6), (.getfield 203, 3, 6, 12, .ref 3), (.iload 5, 2, 5, 0, .null), (.iconst 2, 1, 0, 0, .int 2), (.iload_n 3, 1, 3, 0, .null)]) (L' := [some (.ref 2), some (.int x1), none, some (.int x3), some (.int x4), some (.int x5)]) (st' := [.int x3, .int 2, .int x5, .ref 24]) (w' := q5) (g := []) (K := [(24, 3), (3, 6), (3, 6), (2, 9)]) (by decide +kernel) rfl rfl rfl rfl (jk1 kz_24 (jk1 kz_3 (jk1 kz_3 (jk1 kz_2 jk0)))) ?_
  obtain ⟨q6, hq6, h⟩ := jbe h
  refine ev_callV (ci := 3) (a := 24) (y2 := y_Rows_put) (o := 9) (idx := 72) (d2 := d_Rows_put) (n := 3) (mc2 := 0) (ms2 := 0) (As := [.int x5, .int 2, .int x3]) (st := []) (res2 := (none, jR0, q6)) (by decide +kernel) rfl lk_9_72 mo_Rows_put mv_Rows_put ⟨Nat.le_of_ble_eq_true rfl, Nat.le_of_ble_eq_true rfl⟩ rfl rfl kz_24 (by decide) rfl (Nat.le_of_ble_eq_true rfl) ⟨Nat.le_refl _, Nat.le_refl _⟩ hG (e_Rows_put hG kz_24 hq6) ?_
  refine ev_seg (o := 9) (nL := 6) (q := 150) (xs := [(.aload_n 0, 1, 0, 0, .null), (.getfield 12, 3, 9, 0, .ref 6), (.getfield 203, 3, 6, 12, .ref 3), (.iload 5, 2, 5, 0, .null), (.iconst 3, 1, 0, 0, .int 3), (.aload_n 0, 1, 0, 0, .null), (.getfield 12, 3, 9, 0, .ref 6), (.getfield 119, 3, 6, 0, .int 0)]) (L' := [some (.ref 2), some (.int x1), none, some (.int x3), some (.int x4), some (.int x5)]) (st' := [.int (q6.1 3 0), .int 3, .int x5, .ref 24]) (w' := q6) (g := []) (K := [(3, 6), (3, 6), (2, 9), (24, 3), (3, 6), (3, 6), (2, 9)]) (by decide +kernel) rfl rfl rfl rfl (jk1 kz_3 (jk1 kz_3 (jk1 kz_2 (jk1 kz_24 (jk1 kz_3 (jk1 kz_3 (jk1 kz_2 jk0))))))) ?_
  obtain ⟨q7, hq7, h⟩ := jbe h
  refine ev_callV (ci := 3) (a := 24) (y2 := y_Rows_put) (o := 9) (idx := 72) (d2 := d_Rows_put) (n := 3) (mc2 := 0) (ms2 := 0) (As := [.int x5, .int 3, .int (q6.1 3 0)]) (st := []) (res2 := (none, jR0, q7)) (by decide +kernel) rfl lk_9_72 mo_Rows_put mv_Rows_put ⟨Nat.le_of_ble_eq_true rfl, Nat.le_of_ble_eq_true rfl⟩ rfl rfl kz_24 (by decide) rfl (Nat.le_of_ble_eq_true rfl) ⟨Nat.le_refl _, Nat.le_refl _⟩ hG (e_Rows_put hG kz_24 hq7) ?_
  refine ev_seg (o := 9) (nL := 6) (q := 163) (xs := [(.aload_n 0, 1, 0, 0, .null), (.getfield 12, 3, 9, 0, .ref 6), (.iconst 3, 1, 0, 0, .int 3), (.iload 4, 2, 4, 0, .null), (.iload_n 1, 1, 1, 0, .null), (.iload 5, 2, 5, 0, .null)]) (L' := [some (.ref 2), some (.int x1), none, some (.int x3), some (.int x4), some (.int x5)]) (st' := [.int x5, .int x1, .int x4, .int 3, .ref 3]) (w' := q7) (g := []) (K := [(3, 6), (2, 9)]) (by decide +kernel) rfl rfl rfl rfl (jk1 kz_3 (jk1 kz_2 jk0)) ?_
  obtain ⟨q8, hq8, h⟩ := jbe h
  refine ev_callV (ci := 6) (a := 3) (y2 := y_State_addAct) (o := 9) (idx := 122) (d2 := d_State_addAct) (n := 4) (mc2 := 0) (ms2 := 0) (As := [.int 3, .int x4, .int x1, .int x5]) (st := []) (res2 := (none, jR0, q8)) (by decide +kernel) rfl lk_9_122 mo_State_addAct mv_State_addAct ⟨Nat.le_of_ble_eq_true rfl, Nat.le_of_ble_eq_true rfl⟩ rfl rfl kz_3 (by decide) rfl (Nat.le_of_ble_eq_true rfl) ⟨Nat.le_refl _, Nat.le_refl _⟩ hG (e_State_addAct hG hq8) ?_
  refine ev_seg (o := 9) (nL := 6) (q := 168) (xs := [(.iload 5, 2, 5, 0, .null)]) (L' := [some (.ref 2), some (.int x1), none, some (.int x3), some (.int x4), some (.int x5)]) (st' := [.int x5]) (w' := q8) (g := []) (K := []) (by decide +kernel) rfl rfl rfl rfl jk0 ?_
  cases h
  exact ev_iret (by decide +kernel) rfl rfl rfl rfl
def f_Count_tell_j82 (x1 : Int32) (x2 : Int32) (x3 : Int32) (x4 : Int32) (w : jW) : Option (Int32 × jW) :=
  Option.bind (f_Rows_open 24 x1 w) fun q4 =>
  if x2 = (-1) then
    f_Count_tell_j116 x1 x3 x4 q4.1 101 1 q4.1 q4.2
  else
    f_Count_tell_j116 x1 x3 x4 q4.1 x2 1 q4.1 q4.2
set_option maxRecDepth 20000 in
theorem t_Count_tell_j82 {l : Launch} {G : jG} (hG : jX G) {x1 : Int32} {x2 : Int32} {x3 : Int32} {x4 : Int32} {w : jW} {z : (Int32 × jW)} (h : f_Count_tell_j82 x1 x2 x3 x4 w = some z) : Ev l G (jrm d_Count_tell 0 0) y_Count_tell (some (.int z.1), jR0, z.2) 0 0 0 0 82 [some (.ref 2), some (.int x1), some (.int x2), some (.int x3), some (.int x4), none] [] jR0 w := by
  rw [f_Count_tell_j82] at h
  refine ev_seg (o := 9) (nL := 6) (q := 90) (xs := [(.aload_n 0, 1, 0, 0, .null), (.getfield 12, 3, 9, 0, .ref 6), (.getfield 203, 3, 6, 12, .ref 3), (.iload_n 1, 1, 1, 0, .null)]) (L' := [some (.ref 2), some (.int x1), some (.int x2), some (.int x3), some (.int x4), none]) (st' := [.int x1, .ref 24]) (w' := w) (g := []) (K := [(24, 3), (3, 6), (3, 6), (2, 9)]) (by decide +kernel) rfl rfl rfl rfl (jk1 kz_24 (jk1 kz_3 (jk1 kz_3 (jk1 kz_2 jk0)))) ?_
  obtain ⟨q4, hq4, h⟩ := jbe h
  refine ev_callV (ci := 3) (a := 24) (y2 := y_Rows_open) (o := 9) (idx := 68) (d2 := d_Rows_open) (n := 1) (mc2 := 0) (ms2 := 0) (As := [.int x1]) (st := []) (res2 := (some (.int q4.1), jR0, q4.2)) (by decide +kernel) rfl lk_9_68 mo_Rows_open mv_Rows_open ⟨Nat.le_of_ble_eq_true rfl, Nat.le_of_ble_eq_true rfl⟩ rfl rfl kz_24 (by decide) rfl (Nat.le_of_ble_eq_true rfl) ⟨Nat.le_refl _, Nat.le_refl _⟩ hG (e_Rows_open hG kz_24 hq4) ?_
  refine ev_seg (o := 9) (nL := 6) (q := 107) (xs := [(.istore 5, 2, 5, 0, .null), (.aload_n 0, 1, 0, 0, .null), (.getfield 12, 3, 9, 0, .ref 6), (.getfield 203, 3, 6, 12, .ref 3), (.iload 5, 2, 5, 0, .null), (.iconst 1, 1, 0, 0, .int 1), (.iload_n 2, 1, 2, 0, .null), (.iconst (-1), 1, 0, 0, .int (-1))]) (L' := [some (.ref 2), some (.int x1), some (.int x2), some (.int x3), some (.int x4), some (.int q4.1)]) (st' := [.int (-1), .int x2, .int 1, .int q4.1, .ref 24]) (w' := q4.2) (g := []) (K := [(24, 3), (3, 6), (3, 6), (2, 9)]) (by decide +kernel) rfl rfl rfl rfl (jk1 kz_24 (jk1 kz_3 (jk1 kz_3 (jk1 kz_2 jk0)))) ?_
  refine ev_icmp_ne (off := 8) (tgt := 115) (by decide +kernel) (by decide) (fun c9 => ?_) (fun c9 => ?_)
  · replace h := jneg c9 h
    refine ev_seg (o := 9) (nL := 6) (q := 116) (xs := [(.iload_n 2, 1, 2, 0, .null)]) (L' := [some (.ref 2), some (.int x1), some (.int x2), some (.int x3), some (.int x4), some (.int q4.1)]) (st' := [.int x2, .int 1, .int q4.1, .ref 24]) (w' := q4.2) (g := []) (K := []) (by decide +kernel) rfl rfl rfl rfl jk0 ?_
    refine ev_mask [true, true, false, true, true, true] ?_
    exact t_Count_tell_j116 hG h
  · replace h := jpos c9 h
    refine ev_seg (o := 9) (nL := 6) (q := 116) (xs := [(.bipush 101, 2, 0, 0, .int 101), (.goto 4, 3, 0, 0, .null)]) (L' := [some (.ref 2), some (.int x1), some (.int x2), some (.int x3), some (.int x4), some (.int q4.1)]) (st' := [.int 101, .int 1, .int q4.1, .ref 24]) (w' := q4.2) (g := []) (K := []) (by decide +kernel) rfl rfl rfl rfl jk0 ?_
    refine ev_mask [true, true, false, true, true, true] ?_
    exact t_Count_tell_j116 hG h
def f_Count_tell (x1 : Int32) (x2 : Int32) (x3 : Int32) (w : jW) : Option (Int32 × jW) :=
  Option.bind (f_Rows_has 10 x1 w) fun q1 =>
  if q1.1 = 0 then
    some ((-1), q1.2)
  else
    if x3 < 0 then
      some ((-1), q1.2)
    else
      if x3 ≤ (q1.2.1 3 0) then
        Option.bind (f_Rows_isFull 24 q1.2) fun q2 =>
        if q2.1 = 0 then
          Option.bind (f_Rows_at 10 x1 3 q2.2) fun q3 =>
          if x2 = (-1) then
            f_Count_tell_j82 x1 x2 x3 q3.1 q3.2
          else
            Option.bind (f_Rows_at 6 x2 0 q3.2) fun q10 =>
            if q10.1 = q3.1 then
              f_Count_tell_j82 x1 x2 x3 q3.1 q10.2
            else
              some ((-1), q10.2)
        else
          some ((-1), q2.2)
      else
        some ((-1), q1.2)
set_option maxRecDepth 20000 in
theorem e_Count_tell {l : Launch} {G : jG} (hG : jX G) {x1 : Int32} {x2 : Int32} {x3 : Int32} {w : jW} {z : (Int32 × jW)} (h : f_Count_tell x1 x2 x3 w = some z) : Ct l G y_Count_tell d_Count_tell 0 0 [.ref 2, .int x1, .int x2, .int x3] jR0 w (some (.int z.1), jR0, z.2) := by
  rw [f_Count_tell] at h
  refine Ct.of (L := [some (.ref 2), some (.int x1), some (.int x2), some (.int x3), none, none]) (by decide) (Nat.le_of_ble_eq_true rfl) rfl ?_
  refine ev_seg (o := 9) (nL := 6) (q := 8) (xs := [(.aload_n 0, 1, 0, 0, .null), (.getfield 12, 3, 9, 0, .ref 6), (.getfield 100, 3, 6, 8, .ref 3), (.iload_n 1, 1, 1, 0, .null)]) (L' := [some (.ref 2), some (.int x1), some (.int x2), some (.int x3), none, none]) (st' := [.int x1, .ref 10]) (w' := w) (g := []) (K := [(10, 3), (3, 6), (3, 6), (2, 9)]) (by decide +kernel) rfl rfl rfl rfl (jk1 kz_10 (jk1 kz_3 (jk1 kz_3 (jk1 kz_2 jk0)))) ?_
  obtain ⟨q1, hq1, h⟩ := jbe h
  refine ev_callV (ci := 3) (a := 10) (y2 := y_Rows_has) (o := 9) (idx := 80) (d2 := d_Rows_has) (n := 1) (mc2 := 0) (ms2 := 0) (As := [.int x1]) (st := []) (res2 := (some (.int q1.1), jR0, q1.2)) (by decide +kernel) rfl lk_9_80 mo_Rows_has mv_Rows_has ⟨Nat.le_of_ble_eq_true rfl, Nat.le_of_ble_eq_true rfl⟩ rfl rfl kz_10 (by decide) rfl (Nat.le_of_ble_eq_true rfl) ⟨Nat.le_refl _, Nat.le_refl _⟩ hG (e_Rows_has hG kz_10 hq1) ?_
  refine ev_if_eq (off := 31) (tgt := 42) (by decide +kernel) (by decide) (fun c16 => ?_) (fun c16 => ?_)
  · replace h := jpos c16 h
    refine ev_seg (o := 9) (nL := 6) (q := 43) (xs := [(.iconst (-1), 1, 0, 0, .int (-1))]) (L' := [some (.ref 2), some (.int x1), some (.int x2), some (.int x3), none, none]) (st' := [.int (-1)]) (w' := q1.2) (g := []) (K := []) (by decide +kernel) rfl rfl rfl rfl jk0 ?_
    cases h
    exact ev_iret (by decide +kernel) rfl rfl rfl rfl
  · replace h := jneg c16 h
    refine ev_seg (o := 9) (nL := 6) (q := 15) (xs := [(.iload_n 3, 1, 3, 0, .null)]) (L' := [some (.ref 2), some (.int x1), some (.int x2), some (.int x3), none, none]) (st' := [.int x3]) (w' := q1.2) (g := []) (K := []) (by decide +kernel) rfl rfl rfl rfl jk0 ?_
    refine ev_if_lt (off := 27) (tgt := 42) (by decide +kernel) (by decide) (fun c15 => ?_) (fun c15 => ?_)
    · replace h := jpos c15 h
      refine ev_seg (o := 9) (nL := 6) (q := 43) (xs := [(.iconst (-1), 1, 0, 0, .int (-1))]) (L' := [some (.ref 2), some (.int x1), some (.int x2), some (.int x3), none, none]) (st' := [.int (-1)]) (w' := q1.2) (g := []) (K := []) (by decide +kernel) rfl rfl rfl rfl jk0 ?_
      cases h
      exact ev_iret (by decide +kernel) rfl rfl rfl rfl
    · replace h := jneg c15 h
      refine ev_seg (o := 9) (nL := 6) (q := 26) (xs := [(.iload_n 3, 1, 3, 0, .null), (.aload_n 0, 1, 0, 0, .null), (.getfield 12, 3, 9, 0, .ref 6), (.getfield 119, 3, 6, 0, .int 0)]) (L' := [some (.ref 2), some (.int x1), some (.int x2), some (.int x3), none, none]) (st' := [.int (q1.2.1 3 0), .int x3]) (w' := q1.2) (g := []) (K := [(3, 6), (3, 6), (2, 9)]) (by decide +kernel) rfl rfl rfl rfl (jk1 kz_3 (jk1 kz_3 (jk1 kz_2 jk0))) ?_
      refine ev_icmp_gt (off := 16) (tgt := 42) (by decide +kernel) (by decide) (fun c14 => ?_) (fun c14 => ?_)
      · replace h := jneg c14 h
        refine ev_seg (o := 9) (nL := 6) (q := 43) (xs := [(.iconst (-1), 1, 0, 0, .int (-1))]) (L' := [some (.ref 2), some (.int x1), some (.int x2), some (.int x3), none, none]) (st' := [.int (-1)]) (w' := q1.2) (g := []) (K := []) (by decide +kernel) rfl rfl rfl rfl jk0 ?_
        cases h
        exact ev_iret (by decide +kernel) rfl rfl rfl rfl
      · replace h := jpos c14 h
        refine ev_seg (o := 9) (nL := 6) (q := 36) (xs := [(.aload_n 0, 1, 0, 0, .null), (.getfield 12, 3, 9, 0, .ref 6), (.getfield 203, 3, 6, 12, .ref 3)]) (L' := [some (.ref 2), some (.int x1), some (.int x2), some (.int x3), none, none]) (st' := [.ref 24]) (w' := q1.2) (g := []) (K := [(24, 3), (3, 6), (3, 6), (2, 9)]) (by decide +kernel) rfl rfl rfl rfl (jk1 kz_24 (jk1 kz_3 (jk1 kz_3 (jk1 kz_2 jk0)))) ?_
        obtain ⟨q2, hq2, h⟩ := jbe h
        refine ev_callV (ci := 3) (a := 24) (y2 := y_Rows_isFull) (o := 9) (idx := 62) (d2 := d_Rows_isFull) (n := 0) (mc2 := 0) (ms2 := 0) (As := []) (st := []) (res2 := (some (.int q2.1), jR0, q2.2)) (by decide +kernel) rfl lk_9_62 mo_Rows_isFull mv_Rows_isFull ⟨Nat.le_of_ble_eq_true rfl, Nat.le_of_ble_eq_true rfl⟩ rfl rfl kz_24 (by decide) rfl (Nat.le_of_ble_eq_true rfl) ⟨Nat.le_refl _, Nat.le_refl _⟩ hG (e_Rows_isFull hG kz_24 hq2) ?_
        refine ev_if_eq (off := 5) (tgt := 44) (by decide +kernel) (by decide) (fun c13 => ?_) (fun c13 => ?_)
        · replace h := jpos c13 h
          refine ev_seg (o := 9) (nL := 6) (q := 53) (xs := [(.aload_n 0, 1, 0, 0, .null), (.getfield 12, 3, 9, 0, .ref 6), (.getfield 100, 3, 6, 8, .ref 3), (.iload_n 1, 1, 1, 0, .null), (.iconst 3, 1, 0, 0, .int 3)]) (L' := [some (.ref 2), some (.int x1), some (.int x2), some (.int x3), none, none]) (st' := [.int 3, .int x1, .ref 10]) (w' := q2.2) (g := []) (K := [(10, 3), (3, 6), (3, 6), (2, 9)]) (by decide +kernel) rfl rfl rfl rfl (jk1 kz_10 (jk1 kz_3 (jk1 kz_3 (jk1 kz_2 jk0)))) ?_
          obtain ⟨q3, hq3, h⟩ := jbe h
          refine ev_callV (ci := 3) (a := 10) (y2 := y_Rows_at) (o := 9) (idx := 83) (d2 := d_Rows_at) (n := 2) (mc2 := 0) (ms2 := 0) (As := [.int x1, .int 3]) (st := []) (res2 := (some (.int q3.1), jR0, q3.2)) (by decide +kernel) rfl lk_9_83 mo_Rows_at mv_Rows_at ⟨Nat.le_of_ble_eq_true rfl, Nat.le_of_ble_eq_true rfl⟩ rfl rfl kz_10 (by decide) rfl (Nat.le_of_ble_eq_true rfl) ⟨Nat.le_refl _, Nat.le_refl _⟩ hG (e_Rows_at hG kz_10 hq3) ?_
          refine ev_seg (o := 9) (nL := 6) (q := 60) (xs := [(.istore 4, 2, 4, 0, .null), (.iload_n 2, 1, 2, 0, .null), (.iconst (-1), 1, 0, 0, .int (-1))]) (L' := [some (.ref 2), some (.int x1), some (.int x2), some (.int x3), some (.int q3.1), none]) (st' := [.int (-1), .int x2]) (w' := q3.2) (g := []) (K := []) (by decide +kernel) rfl rfl rfl rfl jk0 ?_
          refine ev_icmp_eq (off := 22) (tgt := 82) (by decide +kernel) (by decide) (fun c12 => ?_) (fun c12 => ?_)
          · replace h := jpos c12 h
            refine ev_mask [true, true, true, true, true, false] ?_
            exact t_Count_tell_j82 hG h
          · replace h := jneg c12 h
            refine ev_seg (o := 9) (nL := 6) (q := 72) (xs := [(.aload_n 0, 1, 0, 0, .null), (.getfield 12, 3, 9, 0, .ref 6), (.getfield 58, 3, 6, 6, .ref 3), (.iload_n 2, 1, 2, 0, .null), (.iconst 0, 1, 0, 0, .int 0)]) (L' := [some (.ref 2), some (.int x1), some (.int x2), some (.int x3), some (.int q3.1), none]) (st' := [.int 0, .int x2, .ref 6]) (w' := q3.2) (g := []) (K := [(6, 3), (3, 6), (3, 6), (2, 9)]) (by decide +kernel) rfl rfl rfl rfl (jk1 kz_6 (jk1 kz_3 (jk1 kz_3 (jk1 kz_2 jk0)))) ?_
            obtain ⟨q10, hq10, h⟩ := jbe h
            refine ev_callV (ci := 3) (a := 6) (y2 := y_Rows_at) (o := 9) (idx := 83) (d2 := d_Rows_at) (n := 2) (mc2 := 0) (ms2 := 0) (As := [.int x2, .int 0]) (st := []) (res2 := (some (.int q10.1), jR0, q10.2)) (by decide +kernel) rfl lk_9_83 mo_Rows_at mv_Rows_at ⟨Nat.le_of_ble_eq_true rfl, Nat.le_of_ble_eq_true rfl⟩ rfl rfl kz_6 (by decide) rfl (Nat.le_of_ble_eq_true rfl) ⟨Nat.le_refl _, Nat.le_refl _⟩ hG (e_Rows_at hG kz_6 hq10) ?_
            refine ev_seg (o := 9) (nL := 6) (q := 77) (xs := [(.iload 4, 2, 4, 0, .null)]) (L' := [some (.ref 2), some (.int x1), some (.int x2), some (.int x3), some (.int q3.1), none]) (st' := [.int q3.1, .int q10.1]) (w' := q10.2) (g := []) (K := []) (by decide +kernel) rfl rfl rfl rfl jk0 ?_
            refine ev_icmp_eq (off := 5) (tgt := 82) (by decide +kernel) (by decide) (fun c11 => ?_) (fun c11 => ?_)
            · replace h := jpos c11 h
              refine ev_mask [true, true, true, true, true, false] ?_
              exact t_Count_tell_j82 hG h
            · replace h := jneg c11 h
              refine ev_seg (o := 9) (nL := 6) (q := 81) (xs := [(.iconst (-1), 1, 0, 0, .int (-1))]) (L' := [some (.ref 2), some (.int x1), some (.int x2), some (.int x3), some (.int q3.1), none]) (st' := [.int (-1)]) (w' := q10.2) (g := []) (K := []) (by decide +kernel) rfl rfl rfl rfl jk0 ?_
              cases h
              exact ev_iret (by decide +kernel) rfl rfl rfl rfl
        · replace h := jneg c13 h
          refine ev_seg (o := 9) (nL := 6) (q := 43) (xs := [(.iconst (-1), 1, 0, 0, .int (-1))]) (L' := [some (.ref 2), some (.int x1), some (.int x2), some (.int x3), none, none]) (st' := [.int (-1)]) (w' := q2.2) (g := []) (K := []) (by decide +kernel) rfl rfl rfl rfl jk0 ?_
          cases h
          exact ev_iret (by decide +kernel) rfl rfl rfl rfl
def f_Knowing_hear_h30 : Nat → Int32 → Int32 → Int32 → jW → Option jW
  | 0, _, _, _, _ => none
  | n + 1, x2, x3, x4, w =>
  Option.bind (f_Rows_count 24 w) fun q1 =>
  if x4 < q1.1 then
    Option.bind (f_Rows_at 24 x4 0 q1.2) fun q2 =>
    Option.bind (f_Rows_at 24 x4 2 q2.2) fun q3 =>
    if q2.1 < 0 then
      (f_Knowing_hear_h30 n) x2 x3 (x4 + 1) q3.2
    else
      if q2.1 < (Int32.ofNat 40) then
        if q3.1 ≤ x2 then
          Option.bind (f_Rows_at 24 x4 3 q3.2) fun q4 =>
          if q4.1 ≤ x3 then
            if jal [jin q2.1 40] = true then
            Option.bind (f_Rows_at 24 (q4.2.1 85 (Int32.toNatClampNeg q2.1)) 2 q4.2) fun q6 =>
            if q3.1 < q6.1 then
              (f_Knowing_hear_h30 n) x2 x3 (x4 + 1) q6.2
            else
              if jal [jin q2.1 40] = true then
              jlw ((jup q6.2.1 85 (Int32.toNatClampNeg q2.1) x4), q6.2.2) fun w8 =>
              (f_Knowing_hear_h30 n) x2 x3 (x4 + 1) w8
              else none
            else none
          else
            (f_Knowing_hear_h30 n) x2 x3 (x4 + 1) q4.2
        else
          (f_Knowing_hear_h30 n) x2 x3 (x4 + 1) q3.2
      else
        (f_Knowing_hear_h30 n) x2 x3 (x4 + 1) q3.2
  else
    some q1.2
set_option maxRecDepth 20000 in
theorem t_Knowing_hear_h30 {l : Launch} {G : jG} (hG : jX G) : ∀ (n : Nat) (x2 : Int32) (x3 : Int32) (x4 : Int32) (w : jW) (z : jW), f_Knowing_hear_h30 n x2 x3 x4 w = some z → Ev l G (jrm d_Knowing_hear 0 0) y_Knowing_hear (none, jR0, z) 0 0 0 0 30 [some (.ref 83), some (.ref 3), some (.int x2), some (.int x3), some (.int x4), none, none] [] jR0 w := by
  intro n
  induction n with
  | zero => intro x2 x3 x4 w z h; simp only [f_Knowing_hear_h30] at h; cases h
  | succ n ih =>
    intro x2 x3 x4 w z h
    rw [f_Knowing_hear_h30] at h
    refine ev_seg (o := 1) (nL := 7) (q := 36) (xs := [(.iload 4, 2, 4, 0, .null), (.aload_n 1, 1, 1, 0, .null), (.getfield 19, 3, 6, 12, .ref 3)]) (L' := [some (.ref 83), some (.ref 3), some (.int x2), some (.int x3), some (.int x4), none, none]) (st' := [.ref 24, .int x4]) (w' := w) (g := []) (K := [(24, 3), (3, 6)]) (by decide +kernel) rfl rfl rfl rfl (jk1 kz_24 (jk1 kz_3 jk0)) ?_
    obtain ⟨q1, hq1, h⟩ := jbe h
    refine ev_callV (ci := 3) (a := 24) (y2 := y_Rows_count) (o := 1) (idx := 25) (d2 := d_Rows_count) (n := 0) (mc2 := 0) (ms2 := 0) (As := []) (st := [.int x4]) (res2 := (some (.int q1.1), jR0, q1.2)) (by decide +kernel) rfl lk_1_25 mo_Rows_count mv_Rows_count ⟨Nat.le_of_ble_eq_true rfl, Nat.le_of_ble_eq_true rfl⟩ rfl rfl kz_24 (by decide) rfl (Nat.le_of_ble_eq_true rfl) ⟨Nat.le_refl _, Nat.le_refl _⟩ hG (e_Rows_count hG kz_24 hq1) ?_
    refine ev_icmp_ge (off := 97) (tgt := 136) (by decide +kernel) (by decide) (fun c14 => ?_) (fun c14 => ?_)
    · replace h := jneg c14 h
      cases h
      exact ev_vret (by decide +kernel) rfl rfl rfl rfl
    · replace h := jpos c14 h
      refine ev_seg (o := 1) (nL := 7) (q := 49) (xs := [(.aload_n 1, 1, 1, 0, .null), (.getfield 19, 3, 6, 12, .ref 3), (.iload 4, 2, 4, 0, .null), (.iconst 0, 1, 0, 0, .int 0)]) (L' := [some (.ref 83), some (.ref 3), some (.int x2), some (.int x3), some (.int x4), none, none]) (st' := [.int 0, .int x4, .ref 24]) (w' := q1.2) (g := []) (K := [(24, 3), (3, 6)]) (by decide +kernel) rfl rfl rfl rfl (jk1 kz_24 (jk1 kz_3 jk0)) ?_
      obtain ⟨q2, hq2, h⟩ := jbe h
      refine ev_callV (ci := 3) (a := 24) (y2 := y_Rows_at) (o := 1) (idx := 31) (d2 := d_Rows_at) (n := 2) (mc2 := 0) (ms2 := 0) (As := [.int x4, .int 0]) (st := []) (res2 := (some (.int q2.1), jR0, q2.2)) (by decide +kernel) rfl lk_1_31 mo_Rows_at mv_Rows_at ⟨Nat.le_of_ble_eq_true rfl, Nat.le_of_ble_eq_true rfl⟩ rfl rfl kz_24 (by decide) rfl (Nat.le_of_ble_eq_true rfl) ⟨Nat.le_refl _, Nat.le_refl _⟩ hG (e_Rows_at hG kz_24 hq2) ?_
      refine ev_seg (o := 1) (nL := 7) (q := 61) (xs := [(.istore 5, 2, 5, 0, .null), (.aload_n 1, 1, 1, 0, .null), (.getfield 19, 3, 6, 12, .ref 3), (.iload 4, 2, 4, 0, .null), (.iconst 2, 1, 0, 0, .int 2)]) (L' := [some (.ref 83), some (.ref 3), some (.int x2), some (.int x3), some (.int x4), some (.int q2.1), none]) (st' := [.int 2, .int x4, .ref 24]) (w' := q2.2) (g := []) (K := [(24, 3), (3, 6)]) (by decide +kernel) rfl rfl rfl rfl (jk1 kz_24 (jk1 kz_3 jk0)) ?_
      obtain ⟨q3, hq3, h⟩ := jbe h
      refine ev_callV (ci := 3) (a := 24) (y2 := y_Rows_at) (o := 1) (idx := 31) (d2 := d_Rows_at) (n := 2) (mc2 := 0) (ms2 := 0) (As := [.int x4, .int 2]) (st := []) (res2 := (some (.int q3.1), jR0, q3.2)) (by decide +kernel) rfl lk_1_31 mo_Rows_at mv_Rows_at ⟨Nat.le_of_ble_eq_true rfl, Nat.le_of_ble_eq_true rfl⟩ rfl rfl kz_24 (by decide) rfl (Nat.le_of_ble_eq_true rfl) ⟨Nat.le_refl _, Nat.le_refl _⟩ hG (e_Rows_at hG kz_24 hq3) ?_
      refine ev_seg (o := 1) (nL := 7) (q := 68) (xs := [(.istore 6, 2, 6, 0, .null), (.iload 5, 2, 5, 0, .null)]) (L' := [some (.ref 83), some (.ref 3), some (.int x2), some (.int x3), some (.int x4), some (.int q2.1), some (.int q3.1)]) (st' := [.int q2.1]) (w' := q3.2) (g := []) (K := []) (by decide +kernel) rfl rfl rfl rfl jk0 ?_
      refine ev_if_lt (off := 62) (tgt := 130) (by decide +kernel) (by decide) (fun c13 => ?_) (fun c13 => ?_)
      · replace h := jpos c13 h
        refine ev_seg (o := 1) (nL := 7) (q := 30) (xs := [(.iinc 4 1, 3, 4, 0, .int 1), (.goto (-103), 3, 0, 0, .null)]) (L' := [some (.ref 83), some (.ref 3), some (.int x2), some (.int x3), some (.int (x4 + 1)), some (.int q2.1), some (.int q3.1)]) (st' := []) (w' := q3.2) (g := []) (K := []) (by decide +kernel) rfl rfl rfl rfl jk0 ?_
        refine ev_mask [true, true, true, true, true, false, false] ?_
        exact ih _ _ _ _ _ h
      · replace h := jneg c13 h
        refine ev_seg (o := 1) (nL := 7) (q := 78) (xs := [(.iload 5, 2, 5, 0, .null), (.aload_n 0, 1, 0, 0, .null), (.getfield 15, 3, 1, 1, .ref 20), (.arraylength, 1, 20, 0, .null)]) (L' := [some (.ref 83), some (.ref 3), some (.int x2), some (.int x3), some (.int x4), some (.int q2.1), some (.int q3.1)]) (st' := [.int (Int32.ofNat 40), .int q2.1]) (w' := q3.2) (g := []) (K := [(85, 20), (85, 20), (83, 1)]) (by decide +kernel) rfl rfl rfl rfl (jk1 kz_85 (jk1 kz_85 (jk1 kz_83 jk0))) ?_
        refine ev_icmp_ge (off := 52) (tgt := 130) (by decide +kernel) (by decide) (fun c12 => ?_) (fun c12 => ?_)
        · replace h := jneg c12 h
          refine ev_seg (o := 1) (nL := 7) (q := 30) (xs := [(.iinc 4 1, 3, 4, 0, .int 1), (.goto (-103), 3, 0, 0, .null)]) (L' := [some (.ref 83), some (.ref 3), some (.int x2), some (.int x3), some (.int (x4 + 1)), some (.int q2.1), some (.int q3.1)]) (st' := []) (w' := q3.2) (g := []) (K := []) (by decide +kernel) rfl rfl rfl rfl jk0 ?_
          refine ev_mask [true, true, true, true, true, false, false] ?_
          exact ih _ _ _ _ _ h
        · replace h := jpos c12 h
          refine ev_seg (o := 1) (nL := 7) (q := 84) (xs := [(.iload 6, 2, 6, 0, .null), (.iload_n 2, 1, 2, 0, .null)]) (L' := [some (.ref 83), some (.ref 3), some (.int x2), some (.int x3), some (.int x4), some (.int q2.1), some (.int q3.1)]) (st' := [.int x2, .int q3.1]) (w' := q3.2) (g := []) (K := []) (by decide +kernel) rfl rfl rfl rfl jk0 ?_
          refine ev_icmp_gt (off := 46) (tgt := 130) (by decide +kernel) (by decide) (fun c11 => ?_) (fun c11 => ?_)
          · replace h := jneg c11 h
            refine ev_seg (o := 1) (nL := 7) (q := 30) (xs := [(.iinc 4 1, 3, 4, 0, .int 1), (.goto (-103), 3, 0, 0, .null)]) (L' := [some (.ref 83), some (.ref 3), some (.int x2), some (.int x3), some (.int (x4 + 1)), some (.int q2.1), some (.int q3.1)]) (st' := []) (w' := q3.2) (g := []) (K := []) (by decide +kernel) rfl rfl rfl rfl jk0 ?_
            refine ev_mask [true, true, true, true, true, false, false] ?_
            exact ih _ _ _ _ _ h
          · replace h := jpos c11 h
            refine ev_seg (o := 1) (nL := 7) (q := 94) (xs := [(.aload_n 1, 1, 1, 0, .null), (.getfield 19, 3, 6, 12, .ref 3), (.iload 4, 2, 4, 0, .null), (.iconst 3, 1, 0, 0, .int 3)]) (L' := [some (.ref 83), some (.ref 3), some (.int x2), some (.int x3), some (.int x4), some (.int q2.1), some (.int q3.1)]) (st' := [.int 3, .int x4, .ref 24]) (w' := q3.2) (g := []) (K := [(24, 3), (3, 6)]) (by decide +kernel) rfl rfl rfl rfl (jk1 kz_24 (jk1 kz_3 jk0)) ?_
            obtain ⟨q4, hq4, h⟩ := jbe h
            refine ev_callV (ci := 3) (a := 24) (y2 := y_Rows_at) (o := 1) (idx := 31) (d2 := d_Rows_at) (n := 2) (mc2 := 0) (ms2 := 0) (As := [.int x4, .int 3]) (st := []) (res2 := (some (.int q4.1), jR0, q4.2)) (by decide +kernel) rfl lk_1_31 mo_Rows_at mv_Rows_at ⟨Nat.le_of_ble_eq_true rfl, Nat.le_of_ble_eq_true rfl⟩ rfl rfl kz_24 (by decide) rfl (Nat.le_of_ble_eq_true rfl) ⟨Nat.le_refl _, Nat.le_refl _⟩ hG (e_Rows_at hG kz_24 hq4) ?_
            refine ev_seg (o := 1) (nL := 7) (q := 98) (xs := [(.iload_n 3, 1, 3, 0, .null)]) (L' := [some (.ref 83), some (.ref 3), some (.int x2), some (.int x3), some (.int x4), some (.int q2.1), some (.int q3.1)]) (st' := [.int x3, .int q4.1]) (w' := q4.2) (g := []) (K := []) (by decide +kernel) rfl rfl rfl rfl jk0 ?_
            refine ev_icmp_gt (off := 32) (tgt := 130) (by decide +kernel) (by decide) (fun c10 => ?_) (fun c10 => ?_)
            · replace h := jneg c10 h
              refine ev_seg (o := 1) (nL := 7) (q := 30) (xs := [(.iinc 4 1, 3, 4, 0, .int 1), (.goto (-103), 3, 0, 0, .null)]) (L' := [some (.ref 83), some (.ref 3), some (.int x2), some (.int x3), some (.int (x4 + 1)), some (.int q2.1), some (.int q3.1)]) (st' := []) (w' := q4.2) (g := []) (K := []) (by decide +kernel) rfl rfl rfl rfl jk0 ?_
              refine ev_mask [true, true, true, true, true, false, false] ?_
              exact ih _ _ _ _ _ h
            · replace h := jpos c10 h
              obtain ⟨hg5, h⟩ := jgd h
              refine ev_seg (o := 1) (nL := 7) (q := 115) (xs := [(.iload 6, 2, 6, 0, .null), (.aload_n 1, 1, 1, 0, .null), (.getfield 19, 3, 6, 12, .ref 3), (.aload_n 0, 1, 0, 0, .null), (.getfield 15, 3, 1, 1, .ref 20), (.iload 5, 2, 5, 0, .null), (.iaload, 1, 0, 0, .null), (.iconst 2, 1, 0, 0, .int 2)]) (L' := [some (.ref 83), some (.ref 3), some (.int x2), some (.int x3), some (.int x4), some (.int q2.1), some (.int q3.1)]) (st' := [.int 2, .int (q4.2.1 85 (Int32.toNatClampNeg q2.1)), .ref 24, .int q3.1]) (w' := q4.2) (g := [jin q2.1 40]) (K := [(85, 20), (85, 20), (83, 1), (24, 3), (3, 6)]) (by decide +kernel) rfl rfl rfl hg5 (jk1 kz_85 (jk1 kz_85 (jk1 kz_83 (jk1 kz_24 (jk1 kz_3 jk0))))) ?_
              obtain ⟨q6, hq6, h⟩ := jbe h
              refine ev_callV (ci := 3) (a := 24) (y2 := y_Rows_at) (o := 1) (idx := 31) (d2 := d_Rows_at) (n := 2) (mc2 := 0) (ms2 := 0) (As := [.int (q4.2.1 85 (Int32.toNatClampNeg q2.1)), .int 2]) (st := [.int q3.1]) (res2 := (some (.int q6.1), jR0, q6.2)) (by decide +kernel) rfl lk_1_31 mo_Rows_at mv_Rows_at ⟨Nat.le_of_ble_eq_true rfl, Nat.le_of_ble_eq_true rfl⟩ rfl rfl kz_24 (by decide) rfl (Nat.le_of_ble_eq_true rfl) ⟨Nat.le_refl _, Nat.le_refl _⟩ hG (e_Rows_at hG kz_24 hq6) ?_
              refine ev_icmp_lt (off := 12) (tgt := 130) (by decide +kernel) (by decide) (fun c9 => ?_) (fun c9 => ?_)
              · replace h := jpos c9 h
                refine ev_seg (o := 1) (nL := 7) (q := 30) (xs := [(.iinc 4 1, 3, 4, 0, .int 1), (.goto (-103), 3, 0, 0, .null)]) (L' := [some (.ref 83), some (.ref 3), some (.int x2), some (.int x3), some (.int (x4 + 1)), some (.int q2.1), some (.int q3.1)]) (st' := []) (w' := q6.2) (g := []) (K := []) (by decide +kernel) rfl rfl rfl rfl jk0 ?_
                refine ev_mask [true, true, true, true, true, false, false] ?_
                exact ih _ _ _ _ _ h
              · replace h := jneg c9 h
                obtain ⟨hg7, h⟩ := jgd h
                refine ev_seg (o := 1) (nL := 7) (q := 130) (xs := [(.aload_n 0, 1, 0, 0, .null), (.getfield 15, 3, 1, 1, .ref 20), (.iload 5, 2, 5, 0, .null), (.iload 4, 2, 4, 0, .null), (.iastore, 1, 0, 0, .null)]) (L' := [some (.ref 83), some (.ref 3), some (.int x2), some (.int x3), some (.int x4), some (.int q2.1), some (.int q3.1)]) (st' := []) (w' := ((jup q6.2.1 85 (Int32.toNatClampNeg q2.1) x4), q6.2.2)) (g := [jin q2.1 40]) (K := [(85, 20), (85, 20), (83, 1)]) (by decide +kernel) rfl rfl rfl hg7 (jk1 kz_85 (jk1 kz_85 (jk1 kz_83 jk0))) ?_
                refine jlw_c (P := fun w8 => Ev l G (jrm d_Knowing_hear 0 0) y_Knowing_hear (none, jR0, z) 0 0 0 0 130 [some (.ref 83), some (.ref 3), some (.int x2), some (.int x3), some (.int x4), some (.int q2.1), some (.int q3.1)] [] jR0 w8) h fun w8 h => ?_
                refine ev_seg (o := 1) (nL := 7) (q := 30) (xs := [(.iinc 4 1, 3, 4, 0, .int 1), (.goto (-103), 3, 0, 0, .null)]) (L' := [some (.ref 83), some (.ref 3), some (.int x2), some (.int x3), some (.int (x4 + 1)), some (.int q2.1), some (.int q3.1)]) (st' := []) (w' := w8) (g := []) (K := []) (by decide +kernel) rfl rfl rfl rfl jk0 ?_
                refine ev_mask [true, true, true, true, true, false, false] ?_
                exact ih _ _ _ _ _ h
def f_Knowing_hear_h3 : Nat → Int32 → Int32 → Int32 → jW → Option jW
  | 0, _, _, _, _ => none
  | n + 1, x2, x3, x4, w =>
  if x4 < (Int32.ofNat 40) then
    if jal [jin x4 40] = true then
    jlw ((jup w.1 85 (Int32.toNatClampNeg x4) (-1)), w.2) fun w16 =>
    (f_Knowing_hear_h3 n) x2 x3 (x4 + 1) w16
    else none
  else
    f_Knowing_hear_h30 jfu x2 x3 0 w
set_option maxRecDepth 20000 in
theorem t_Knowing_hear_h3 {l : Launch} {G : jG} (hG : jX G) : ∀ (n : Nat) (x2 : Int32) (x3 : Int32) (x4 : Int32) (w : jW) (z : jW), f_Knowing_hear_h3 n x2 x3 x4 w = some z → Ev l G (jrm d_Knowing_hear 0 0) y_Knowing_hear (none, jR0, z) 0 0 0 0 3 [some (.ref 83), some (.ref 3), some (.int x2), some (.int x3), some (.int x4), none, none] [] jR0 w := by
  intro n
  induction n with
  | zero => intro x2 x3 x4 w z h; simp only [f_Knowing_hear_h3] at h; cases h
  | succ n ih =>
    intro x2 x3 x4 w z h
    rw [f_Knowing_hear_h3] at h
    refine ev_seg (o := 1) (nL := 7) (q := 10) (xs := [(.iload 4, 2, 4, 0, .null), (.aload_n 0, 1, 0, 0, .null), (.getfield 15, 3, 1, 1, .ref 20), (.arraylength, 1, 20, 0, .null)]) (L' := [some (.ref 83), some (.ref 3), some (.int x2), some (.int x3), some (.int x4), none, none]) (st' := [.int (Int32.ofNat 40), .int x4]) (w' := w) (g := []) (K := [(85, 20), (85, 20), (83, 1)]) (by decide +kernel) rfl rfl rfl rfl (jk1 kz_85 (jk1 kz_85 (jk1 kz_83 jk0))) ?_
    refine ev_icmp_ge (off := 17) (tgt := 27) (by decide +kernel) (by decide) (fun c17 => ?_) (fun c17 => ?_)
    · replace h := jneg c17 h
      refine ev_seg (o := 1) (nL := 7) (q := 30) (xs := [(.iconst 0, 1, 0, 0, .int 0), (.istore 4, 2, 4, 0, .null)]) (L' := [some (.ref 83), some (.ref 3), some (.int x2), some (.int x3), some (.int 0), none, none]) (st' := []) (w' := w) (g := []) (K := []) (by decide +kernel) rfl rfl rfl rfl jk0 ?_
      refine ev_mask [true, true, true, true, true, false, false] ?_
      exact t_Knowing_hear_h30 hG jfu _ _ _ _ _ h
    · replace h := jpos c17 h
      obtain ⟨hg15, h⟩ := jgd h
      refine ev_seg (o := 1) (nL := 7) (q := 21) (xs := [(.aload_n 0, 1, 0, 0, .null), (.getfield 15, 3, 1, 1, .ref 20), (.iload 4, 2, 4, 0, .null), (.iconst (-1), 1, 0, 0, .int (-1)), (.iastore, 1, 0, 0, .null)]) (L' := [some (.ref 83), some (.ref 3), some (.int x2), some (.int x3), some (.int x4), none, none]) (st' := []) (w' := ((jup w.1 85 (Int32.toNatClampNeg x4) (-1)), w.2)) (g := [jin x4 40]) (K := [(85, 20), (85, 20), (83, 1)]) (by decide +kernel) rfl rfl rfl hg15 (jk1 kz_85 (jk1 kz_85 (jk1 kz_83 jk0))) ?_
      refine jlw_c (P := fun w16 => Ev l G (jrm d_Knowing_hear 0 0) y_Knowing_hear (none, jR0, z) 0 0 0 0 21 [some (.ref 83), some (.ref 3), some (.int x2), some (.int x3), some (.int x4), none, none] [] jR0 w16) h fun w16 h => ?_
      refine ev_seg (o := 1) (nL := 7) (q := 3) (xs := [(.iinc 4 1, 3, 4, 0, .int 1), (.goto (-21), 3, 0, 0, .null)]) (L' := [some (.ref 83), some (.ref 3), some (.int x2), some (.int x3), some (.int (x4 + 1)), none, none]) (st' := []) (w' := w16) (g := []) (K := []) (by decide +kernel) rfl rfl rfl rfl jk0 ?_
      refine ev_mask [true, true, true, true, true, false, false] ?_
      exact ih _ _ _ _ _ h
def f_Knowing_hear (x2 : Int32) (x3 : Int32) (w : jW) : Option jW :=
  f_Knowing_hear_h3 jfu x2 x3 0 w
set_option maxRecDepth 20000 in
theorem e_Knowing_hear {l : Launch} {G : jG} (hG : jX G) {x2 : Int32} {x3 : Int32} {w : jW} {z : jW} (h : f_Knowing_hear x2 x3 w = some z) : Ct l G y_Knowing_hear d_Knowing_hear 0 0 [.ref 83, .ref 3, .int x2, .int x3] jR0 w (none, jR0, z) := by
  rw [f_Knowing_hear] at h
  refine Ct.of (L := [some (.ref 83), some (.ref 3), some (.int x2), some (.int x3), none, none, none]) (by decide) (Nat.le_of_ble_eq_true rfl) rfl ?_
  refine ev_seg (o := 1) (nL := 7) (q := 3) (xs := [(.iconst 0, 1, 0, 0, .int 0), (.istore 4, 2, 4, 0, .null)]) (L' := [some (.ref 83), some (.ref 3), some (.int x2), some (.int x3), some (.int 0), none, none]) (st' := []) (w' := w) (g := []) (K := []) (by decide +kernel) rfl rfl rfl rfl jk0 ?_
  refine ev_mask [true, true, true, true, true, false, false] ?_
  exact t_Knowing_hear_h3 hG jfu _ _ _ _ _ h
def f_Knowing_placeTold (x2 : Int32) (w : jW) : Option (Int32 × jW) :=
  if x2 < 0 then
    some ((-1), w)
  else
    if x2 < (Int32.ofNat 40) then
      if jal [jin x2 40] = true then
      Option.bind (f_Rows_at 24 (w.1 85 (Int32.toNatClampNeg x2)) 1 w) fun q2 =>
      some (q2.1, q2.2)
      else none
    else
      some ((-1), w)
set_option maxRecDepth 20000 in
theorem e_Knowing_placeTold {l : Launch} {G : jG} (hG : jX G) {x2 : Int32} {w : jW} {z : (Int32 × jW)} (h : f_Knowing_placeTold x2 w = some z) : Ct l G y_Knowing_placeTold d_Knowing_placeTold 0 0 [.ref 83, .ref 3, .int x2] jR0 w (some (.int z.1), jR0, z.2) := by
  rw [f_Knowing_placeTold] at h
  refine Ct.of (L := [some (.ref 83), some (.ref 3), some (.int x2)]) (by decide) (Nat.le_of_ble_eq_true rfl) rfl ?_
  refine ev_seg (o := 1) (nL := 3) (q := 1) (xs := [(.iload_n 2, 1, 2, 0, .null)]) (L' := [some (.ref 83), some (.ref 3), some (.int x2)]) (st' := [.int x2]) (w' := w) (g := []) (K := []) (by decide +kernel) rfl rfl rfl rfl jk0 ?_
  refine ev_if_lt (off := 12) (tgt := 13) (by decide +kernel) (by decide) (fun c4 => ?_) (fun c4 => ?_)
  · replace h := jpos c4 h
    refine ev_seg (o := 1) (nL := 3) (q := 14) (xs := [(.iconst (-1), 1, 0, 0, .int (-1))]) (L' := [some (.ref 83), some (.ref 3), some (.int x2)]) (st' := [.int (-1)]) (w' := w) (g := []) (K := []) (by decide +kernel) rfl rfl rfl rfl jk0 ?_
    cases h
    exact ev_iret (by decide +kernel) rfl rfl rfl rfl
  · replace h := jneg c4 h
    refine ev_seg (o := 1) (nL := 3) (q := 10) (xs := [(.iload_n 2, 1, 2, 0, .null), (.aload_n 0, 1, 0, 0, .null), (.getfield 15, 3, 1, 1, .ref 20), (.arraylength, 1, 20, 0, .null)]) (L' := [some (.ref 83), some (.ref 3), some (.int x2)]) (st' := [.int (Int32.ofNat 40), .int x2]) (w' := w) (g := []) (K := [(85, 20), (85, 20), (83, 1)]) (by decide +kernel) rfl rfl rfl rfl (jk1 kz_85 (jk1 kz_85 (jk1 kz_83 jk0))) ?_
    refine ev_icmp_lt (off := 5) (tgt := 15) (by decide +kernel) (by decide) (fun c3 => ?_) (fun c3 => ?_)
    · replace h := jpos c3 h
      obtain ⟨hg1, h⟩ := jgd h
      refine ev_seg (o := 1) (nL := 3) (q := 26) (xs := [(.aload_n 1, 1, 1, 0, .null), (.getfield 19, 3, 6, 12, .ref 3), (.aload_n 0, 1, 0, 0, .null), (.getfield 15, 3, 1, 1, .ref 20), (.iload_n 2, 1, 2, 0, .null), (.iaload, 1, 0, 0, .null), (.iconst 1, 1, 0, 0, .int 1)]) (L' := [some (.ref 83), some (.ref 3), some (.int x2)]) (st' := [.int 1, .int (w.1 85 (Int32.toNatClampNeg x2)), .ref 24]) (w' := w) (g := [jin x2 40]) (K := [(85, 20), (85, 20), (83, 1), (24, 3), (3, 6)]) (by decide +kernel) rfl rfl rfl hg1 (jk1 kz_85 (jk1 kz_85 (jk1 kz_83 (jk1 kz_24 (jk1 kz_3 jk0))))) ?_
      obtain ⟨q2, hq2, h⟩ := jbe h
      refine ev_callV (ci := 3) (a := 24) (y2 := y_Rows_at) (o := 1) (idx := 31) (d2 := d_Rows_at) (n := 2) (mc2 := 0) (ms2 := 0) (As := [.int (w.1 85 (Int32.toNatClampNeg x2)), .int 1]) (st := []) (res2 := (some (.int q2.1), jR0, q2.2)) (by decide +kernel) rfl lk_1_31 mo_Rows_at mv_Rows_at ⟨Nat.le_of_ble_eq_true rfl, Nat.le_of_ble_eq_true rfl⟩ rfl rfl kz_24 (by decide) rfl (Nat.le_of_ble_eq_true rfl) ⟨Nat.le_refl _, Nat.le_refl _⟩ hG (e_Rows_at hG kz_24 hq2) ?_
      cases h
      exact ev_iret (by decide +kernel) rfl rfl rfl rfl
    · replace h := jneg c3 h
      refine ev_seg (o := 1) (nL := 3) (q := 14) (xs := [(.iconst (-1), 1, 0, 0, .int (-1))]) (L' := [some (.ref 83), some (.ref 3), some (.int x2)]) (st' := [.int (-1)]) (w' := w) (g := []) (K := []) (by decide +kernel) rfl rfl rfl rfl jk0 ?_
      cases h
      exact ev_iret (by decide +kernel) rfl rfl rfl rfl
def f_Count_told (x1 : Int32) (x2 : Int32) (x3 : Int32) (w : jW) : Option (Int32 × jW) :=
  Option.bind (f_Rows_has 10 x1 w) fun q1 =>
  if q1.1 = 0 then
    some ((-1), q1.2)
  else
    Option.bind (f_State_isDay x2 q1.2) fun q2 =>
    if q2.1 = 0 then
      some ((-1), q2.2)
    else
      Option.bind (f_State_isDay x3 q2.2) fun q3 =>
      if q3.1 = 0 then
        some ((-1), q3.2)
      else
        Option.bind (f_Knowing_hear x2 x3 q3.2) fun q4 =>
        Option.bind (f_Knowing_placeTold x1 q4) fun q5 =>
        some (q5.1, q5.2)
set_option maxRecDepth 20000 in
theorem e_Count_told {l : Launch} {G : jG} (hG : jX G) {x1 : Int32} {x2 : Int32} {x3 : Int32} {w : jW} {z : (Int32 × jW)} (h : f_Count_told x1 x2 x3 w = some z) : Ct l G y_Count_told d_Count_told 0 0 [.ref 2, .int x1, .int x2, .int x3] jR0 w (some (.int z.1), jR0, z.2) := by
  rw [f_Count_told] at h
  refine Ct.of (L := [some (.ref 2), some (.int x1), some (.int x2), some (.int x3)]) (by decide) (Nat.le_of_ble_eq_true rfl) rfl ?_
  refine ev_seg (o := 9) (nL := 4) (q := 8) (xs := [(.aload_n 0, 1, 0, 0, .null), (.getfield 12, 3, 9, 0, .ref 6), (.getfield 100, 3, 6, 8, .ref 3), (.iload_n 1, 1, 1, 0, .null)]) (L' := [some (.ref 2), some (.int x1), some (.int x2), some (.int x3)]) (st' := [.int x1, .ref 10]) (w' := w) (g := []) (K := [(10, 3), (3, 6), (3, 6), (2, 9)]) (by decide +kernel) rfl rfl rfl rfl (jk1 kz_10 (jk1 kz_3 (jk1 kz_3 (jk1 kz_2 jk0)))) ?_
  obtain ⟨q1, hq1, h⟩ := jbe h
  refine ev_callV (ci := 3) (a := 10) (y2 := y_Rows_has) (o := 9) (idx := 80) (d2 := d_Rows_has) (n := 1) (mc2 := 0) (ms2 := 0) (As := [.int x1]) (st := []) (res2 := (some (.int q1.1), jR0, q1.2)) (by decide +kernel) rfl lk_9_80 mo_Rows_has mv_Rows_has ⟨Nat.le_of_ble_eq_true rfl, Nat.le_of_ble_eq_true rfl⟩ rfl rfl kz_10 (by decide) rfl (Nat.le_of_ble_eq_true rfl) ⟨Nat.le_refl _, Nat.le_refl _⟩ hG (e_Rows_has hG kz_10 hq1) ?_
  refine ev_if_eq (off := 17) (tgt := 28) (by decide +kernel) (by decide) (fun c8 => ?_) (fun c8 => ?_)
  · replace h := jpos c8 h
    refine ev_seg (o := 9) (nL := 4) (q := 29) (xs := [(.iconst (-1), 1, 0, 0, .int (-1))]) (L' := [some (.ref 2), some (.int x1), some (.int x2), some (.int x3)]) (st' := [.int (-1)]) (w' := q1.2) (g := []) (K := []) (by decide +kernel) rfl rfl rfl rfl jk0 ?_
    cases h
    exact ev_iret (by decide +kernel) rfl rfl rfl rfl
  · replace h := jneg c8 h
    refine ev_seg (o := 9) (nL := 4) (q := 15) (xs := [(.iload_n 2, 1, 2, 0, .null)]) (L' := [some (.ref 2), some (.int x1), some (.int x2), some (.int x3)]) (st' := [.int x2]) (w' := q1.2) (g := []) (K := []) (by decide +kernel) rfl rfl rfl rfl jk0 ?_
    obtain ⟨q2, hq2, h⟩ := jbe h
    refine ev_callS (y2 := y_State_isDay) (o := 9) (idx := 151) (d2 := d_State_isDay) (n := 1) (mc2 := 0) (ms2 := 0) (As := [.int x2]) (st := []) (res2 := (some (.int q2.1), jR0, q2.2)) (by decide +kernel) rfl lk_9_151 mo_State_isDay ms_State_isDay ⟨Nat.le_of_ble_eq_true rfl, Nat.le_of_ble_eq_true rfl⟩ rfl rfl (Nat.le_of_ble_eq_true rfl) ⟨Nat.le_refl _, Nat.le_refl _⟩ hG (e_State_isDay hG hq2) ?_
    refine ev_if_eq (off := 10) (tgt := 28) (by decide +kernel) (by decide) (fun c7 => ?_) (fun c7 => ?_)
    · replace h := jpos c7 h
      refine ev_seg (o := 9) (nL := 4) (q := 29) (xs := [(.iconst (-1), 1, 0, 0, .int (-1))]) (L' := [some (.ref 2), some (.int x1), some (.int x2), some (.int x3)]) (st' := [.int (-1)]) (w' := q2.2) (g := []) (K := []) (by decide +kernel) rfl rfl rfl rfl jk0 ?_
      cases h
      exact ev_iret (by decide +kernel) rfl rfl rfl rfl
    · replace h := jneg c7 h
      refine ev_seg (o := 9) (nL := 4) (q := 22) (xs := [(.iload_n 3, 1, 3, 0, .null)]) (L' := [some (.ref 2), some (.int x1), some (.int x2), some (.int x3)]) (st' := [.int x3]) (w' := q2.2) (g := []) (K := []) (by decide +kernel) rfl rfl rfl rfl jk0 ?_
      obtain ⟨q3, hq3, h⟩ := jbe h
      refine ev_callS (y2 := y_State_isDay) (o := 9) (idx := 151) (d2 := d_State_isDay) (n := 1) (mc2 := 0) (ms2 := 0) (As := [.int x3]) (st := []) (res2 := (some (.int q3.1), jR0, q3.2)) (by decide +kernel) rfl lk_9_151 mo_State_isDay ms_State_isDay ⟨Nat.le_of_ble_eq_true rfl, Nat.le_of_ble_eq_true rfl⟩ rfl rfl (Nat.le_of_ble_eq_true rfl) ⟨Nat.le_refl _, Nat.le_refl _⟩ hG (e_State_isDay hG hq3) ?_
      refine ev_if_ne (off := 5) (tgt := 30) (by decide +kernel) (by decide) (fun c6 => ?_) (fun c6 => ?_)
      · replace h := jneg c6 h
        refine ev_seg (o := 9) (nL := 4) (q := 40) (xs := [(.aload_n 0, 1, 0, 0, .null), (.getfield 29, 3, 9, 3, .ref 1), (.aload_n 0, 1, 0, 0, .null), (.getfield 12, 3, 9, 0, .ref 6), (.iload_n 2, 1, 2, 0, .null), (.iload_n 3, 1, 3, 0, .null)]) (L' := [some (.ref 2), some (.int x1), some (.int x2), some (.int x3)]) (st' := [.int x3, .int x2, .ref 3, .ref 83]) (w' := q3.2) (g := []) (K := [(3, 6), (2, 9), (83, 1), (2, 9)]) (by decide +kernel) rfl rfl rfl rfl (jk1 kz_3 (jk1 kz_2 (jk1 kz_83 (jk1 kz_2 jk0)))) ?_
        obtain ⟨q4, hq4, h⟩ := jbe h
        refine ev_callV (ci := 1) (a := 83) (y2 := y_Knowing_hear) (o := 9) (idx := 206) (d2 := d_Knowing_hear) (n := 3) (mc2 := 0) (ms2 := 0) (As := [.ref 3, .int x2, .int x3]) (st := []) (res2 := (none, jR0, q4)) (by decide +kernel) rfl lk_9_206 mo_Knowing_hear mv_Knowing_hear ⟨Nat.le_of_ble_eq_true rfl, Nat.le_of_ble_eq_true rfl⟩ rfl rfl kz_83 (by decide) rfl (Nat.le_of_ble_eq_true rfl) ⟨Nat.le_refl _, Nat.le_refl _⟩ hG (e_Knowing_hear hG hq4) ?_
        refine ev_seg (o := 9) (nL := 4) (q := 52) (xs := [(.aload_n 0, 1, 0, 0, .null), (.getfield 29, 3, 9, 3, .ref 1), (.aload_n 0, 1, 0, 0, .null), (.getfield 12, 3, 9, 0, .ref 6), (.iload_n 1, 1, 1, 0, .null)]) (L' := [some (.ref 2), some (.int x1), some (.int x2), some (.int x3)]) (st' := [.int x1, .ref 3, .ref 83]) (w' := q4) (g := []) (K := [(3, 6), (2, 9), (83, 1), (2, 9)]) (by decide +kernel) rfl rfl rfl rfl (jk1 kz_3 (jk1 kz_2 (jk1 kz_83 (jk1 kz_2 jk0)))) ?_
        obtain ⟨q5, hq5, h⟩ := jbe h
        refine ev_callV (ci := 1) (a := 83) (y2 := y_Knowing_placeTold) (o := 9) (idx := 210) (d2 := d_Knowing_placeTold) (n := 2) (mc2 := 0) (ms2 := 0) (As := [.ref 3, .int x1]) (st := []) (res2 := (some (.int q5.1), jR0, q5.2)) (by decide +kernel) rfl lk_9_210 mo_Knowing_placeTold mv_Knowing_placeTold ⟨Nat.le_of_ble_eq_true rfl, Nat.le_of_ble_eq_true rfl⟩ rfl rfl kz_83 (by decide) rfl (Nat.le_of_ble_eq_true rfl) ⟨Nat.le_refl _, Nat.le_refl _⟩ hG (e_Knowing_placeTold hG hq5) ?_
        cases h
        exact ev_iret (by decide +kernel) rfl rfl rfl rfl
      · replace h := jpos c6 h
        refine ev_seg (o := 9) (nL := 4) (q := 29) (xs := [(.iconst (-1), 1, 0, 0, .int (-1))]) (L' := [some (.ref 2), some (.int x1), some (.int x2), some (.int x3)]) (st' := [.int (-1)]) (w' := q3.2) (g := []) (K := []) (by decide +kernel) rfl rfl rfl rfl jk0 ?_
        cases h
        exact ev_iret (by decide +kernel) rfl rfl rfl rfl
def f_Knowing_numberTold_h6 : Nat → Int32 → Int32 → Int32 → Int32 → jW → Option (Int32 × jW)
  | 0, _, _, _, _, _ => none
  | n + 1, x2, x3, x4, x5, w =>
  Option.bind (f_Rows_count 10 w) fun q1 =>
  if x5 < q1.1 then
    Option.bind (f_Rows_at 10 x5 0 q1.2) fun q2 =>
    if q2.1 = x3 then
      Option.bind (f_Knowing_placeTold x5 q2.2) fun q3 =>
      if q3.1 = x2 then
        (f_Knowing_numberTold_h6 n) x2 x3 (x4 + 1) (x5 + 1) q3.2
      else
        (f_Knowing_numberTold_h6 n) x2 x3 x4 (x5 + 1) q3.2
    else
      (f_Knowing_numberTold_h6 n) x2 x3 x4 (x5 + 1) q2.2
  else
    some (x4, q1.2)
set_option maxRecDepth 20000 in
theorem t_Knowing_numberTold_h6 {l : Launch} {G : jG} (hG : jX G) : ∀ (n : Nat) (x2 : Int32) (x3 : Int32) (x4 : Int32) (x5 : Int32) (w : jW) (z : (Int32 × jW)), f_Knowing_numberTold_h6 n x2 x3 x4 x5 w = some z → Ev l G (jrm d_Knowing_numberTold 0 0) y_Knowing_numberTold (some (.int z.1), jR0, z.2) 0 0 0 0 6 [some (.ref 83), some (.ref 3), some (.int x2), some (.int x3), some (.int x4), some (.int x5)] [] jR0 w := by
  intro n
  induction n with
  | zero => intro x2 x3 x4 x5 w z h; simp only [f_Knowing_numberTold_h6] at h; cases h
  | succ n ih =>
    intro x2 x3 x4 x5 w z h
    rw [f_Knowing_numberTold_h6] at h
    refine ev_seg (o := 1) (nL := 6) (q := 12) (xs := [(.iload 5, 2, 5, 0, .null), (.aload_n 1, 1, 1, 0, .null), (.getfield 35, 3, 6, 8, .ref 3)]) (L' := [some (.ref 83), some (.ref 3), some (.int x2), some (.int x3), some (.int x4), some (.int x5)]) (st' := [.ref 10, .int x5]) (w' := w) (g := []) (K := [(10, 3), (3, 6)]) (by decide +kernel) rfl rfl rfl rfl (jk1 kz_10 (jk1 kz_3 jk0)) ?_
    obtain ⟨q1, hq1, h⟩ := jbe h
    refine ev_callV (ci := 3) (a := 10) (y2 := y_Rows_count) (o := 1) (idx := 25) (d2 := d_Rows_count) (n := 0) (mc2 := 0) (ms2 := 0) (As := []) (st := [.int x5]) (res2 := (some (.int q1.1), jR0, q1.2)) (by decide +kernel) rfl lk_1_25 mo_Rows_count mv_Rows_count ⟨Nat.le_of_ble_eq_true rfl, Nat.le_of_ble_eq_true rfl⟩ rfl rfl kz_10 (by decide) rfl (Nat.le_of_ble_eq_true rfl) ⟨Nat.le_refl _, Nat.le_refl _⟩ hG (e_Rows_count hG kz_10 hq1) ?_
    refine ev_icmp_ge (off := 37) (tgt := 52) (by decide +kernel) (by decide) (fun c6 => ?_) (fun c6 => ?_)
    · replace h := jneg c6 h
      refine ev_seg (o := 1) (nL := 6) (q := 54) (xs := [(.iload 4, 2, 4, 0, .null)]) (L' := [some (.ref 83), some (.ref 3), some (.int x2), some (.int x3), some (.int x4), some (.int x5)]) (st' := [.int x4]) (w' := q1.2) (g := []) (K := []) (by decide +kernel) rfl rfl rfl rfl jk0 ?_
      cases h
      exact ev_iret (by decide +kernel) rfl rfl rfl rfl
    · replace h := jpos c6 h
      refine ev_seg (o := 1) (nL := 6) (q := 25) (xs := [(.aload_n 1, 1, 1, 0, .null), (.getfield 35, 3, 6, 8, .ref 3), (.iload 5, 2, 5, 0, .null), (.iconst 0, 1, 0, 0, .int 0)]) (L' := [some (.ref 83), some (.ref 3), some (.int x2), some (.int x3), some (.int x4), some (.int x5)]) (st' := [.int 0, .int x5, .ref 10]) (w' := q1.2) (g := []) (K := [(10, 3), (3, 6)]) (by decide +kernel) rfl rfl rfl rfl (jk1 kz_10 (jk1 kz_3 jk0)) ?_
      obtain ⟨q2, hq2, h⟩ := jbe h
      refine ev_callV (ci := 3) (a := 10) (y2 := y_Rows_at) (o := 1) (idx := 31) (d2 := d_Rows_at) (n := 2) (mc2 := 0) (ms2 := 0) (As := [.int x5, .int 0]) (st := []) (res2 := (some (.int q2.1), jR0, q2.2)) (by decide +kernel) rfl lk_1_31 mo_Rows_at mv_Rows_at ⟨Nat.le_of_ble_eq_true rfl, Nat.le_of_ble_eq_true rfl⟩ rfl rfl kz_10 (by decide) rfl (Nat.le_of_ble_eq_true rfl) ⟨Nat.le_refl _, Nat.le_refl _⟩ hG (e_Rows_at hG kz_10 hq2) ?_
      refine ev_seg (o := 1) (nL := 6) (q := 29) (xs := [(.iload_n 3, 1, 3, 0, .null)]) (L' := [some (.ref 83), some (.ref 3), some (.int x2), some (.int x3), some (.int x4), some (.int x5)]) (st' := [.int x3, .int q2.1]) (w' := q2.2) (g := []) (K := []) (by decide +kernel) rfl rfl rfl rfl jk0 ?_
      refine ev_icmp_ne (off := 17) (tgt := 46) (by decide +kernel) (by decide) (fun c5 => ?_) (fun c5 => ?_)
      · replace h := jneg c5 h
        refine ev_seg (o := 1) (nL := 6) (q := 6) (xs := [(.iinc 5 1, 3, 5, 0, .int 1), (.goto (-43), 3, 0, 0, .null)]) (L' := [some (.ref 83), some (.ref 3), some (.int x2), some (.int x3), some (.int x4), some (.int (x5 + 1))]) (st' := []) (w' := q2.2) (g := []) (K := []) (by decide +kernel) rfl rfl rfl rfl jk0 ?_
        refine ev_mask [true, true, true, true, true, true] ?_
        exact ih _ _ _ _ _ _ h
      · replace h := jpos c5 h
        refine ev_seg (o := 1) (nL := 6) (q := 36) (xs := [(.aload_n 0, 1, 0, 0, .null), (.aload_n 1, 1, 1, 0, .null), (.iload 5, 2, 5, 0, .null)]) (L' := [some (.ref 83), some (.ref 3), some (.int x2), some (.int x3), some (.int x4), some (.int x5)]) (st' := [.int x5, .ref 3, .ref 83]) (w' := q2.2) (g := []) (K := []) (by decide +kernel) rfl rfl rfl rfl jk0 ?_
        obtain ⟨q3, hq3, h⟩ := jbe h
        refine ev_callV (ci := 1) (a := 83) (y2 := y_Knowing_placeTold) (o := 1) (idx := 38) (d2 := d_Knowing_placeTold) (n := 2) (mc2 := 0) (ms2 := 0) (As := [.ref 3, .int x5]) (st := []) (res2 := (some (.int q3.1), jR0, q3.2)) (by decide +kernel) rfl lk_1_38 mo_Knowing_placeTold mv_Knowing_placeTold ⟨Nat.le_of_ble_eq_true rfl, Nat.le_of_ble_eq_true rfl⟩ rfl rfl kz_83 (by decide) rfl (Nat.le_of_ble_eq_true rfl) ⟨Nat.le_refl _, Nat.le_refl _⟩ hG (e_Knowing_placeTold hG hq3) ?_
        refine ev_seg (o := 1) (nL := 6) (q := 40) (xs := [(.iload_n 2, 1, 2, 0, .null)]) (L' := [some (.ref 83), some (.ref 3), some (.int x2), some (.int x3), some (.int x4), some (.int x5)]) (st' := [.int x2, .int q3.1]) (w' := q3.2) (g := []) (K := []) (by decide +kernel) rfl rfl rfl rfl jk0 ?_
        refine ev_icmp_ne (off := 6) (tgt := 46) (by decide +kernel) (by decide) (fun c4 => ?_) (fun c4 => ?_)
        · replace h := jneg c4 h
          refine ev_seg (o := 1) (nL := 6) (q := 6) (xs := [(.iinc 5 1, 3, 5, 0, .int 1), (.goto (-43), 3, 0, 0, .null)]) (L' := [some (.ref 83), some (.ref 3), some (.int x2), some (.int x3), some (.int x4), some (.int (x5 + 1))]) (st' := []) (w' := q3.2) (g := []) (K := []) (by decide +kernel) rfl rfl rfl rfl jk0 ?_
          refine ev_mask [true, true, true, true, true, true] ?_
          exact ih _ _ _ _ _ _ h
        · replace h := jpos c4 h
          refine ev_seg (o := 1) (nL := 6) (q := 6) (xs := [(.iinc 4 1, 3, 4, 0, .int 1), (.iinc 5 1, 3, 5, 0, .int 1), (.goto (-43), 3, 0, 0, .null)]) (L' := [some (.ref 83), some (.ref 3), some (.int x2), some (.int x3), some (.int (x4 + 1)), some (.int (x5 + 1))]) (st' := []) (w' := q3.2) (g := []) (K := []) (by decide +kernel) rfl rfl rfl rfl jk0 ?_
          refine ev_mask [true, true, true, true, true, true] ?_
          exact ih _ _ _ _ _ _ h
def f_Knowing_numberTold (x2 : Int32) (x3 : Int32) (w : jW) : Option (Int32 × jW) :=
  f_Knowing_numberTold_h6 jfu x2 x3 0 0 w
set_option maxRecDepth 20000 in
theorem e_Knowing_numberTold {l : Launch} {G : jG} (hG : jX G) {x2 : Int32} {x3 : Int32} {w : jW} {z : (Int32 × jW)} (h : f_Knowing_numberTold x2 x3 w = some z) : Ct l G y_Knowing_numberTold d_Knowing_numberTold 0 0 [.ref 83, .ref 3, .int x2, .int x3] jR0 w (some (.int z.1), jR0, z.2) := by
  rw [f_Knowing_numberTold] at h
  refine Ct.of (L := [some (.ref 83), some (.ref 3), some (.int x2), some (.int x3), none, none]) (by decide) (Nat.le_of_ble_eq_true rfl) rfl ?_
  refine ev_seg (o := 1) (nL := 6) (q := 6) (xs := [(.iconst 0, 1, 0, 0, .int 0), (.istore 4, 2, 4, 0, .null), (.iconst 0, 1, 0, 0, .int 0), (.istore 5, 2, 5, 0, .null)]) (L' := [some (.ref 83), some (.ref 3), some (.int x2), some (.int x3), some (.int 0), some (.int 0)]) (st' := []) (w' := w) (g := []) (K := []) (by decide +kernel) rfl rfl rfl rfl jk0 ?_
  refine ev_mask [true, true, true, true, true, true] ?_
  exact t_Knowing_numberTold_h6 hG jfu _ _ _ _ _ _ h
def f_Count_toldAt (x1 : Int32) (x2 : Int32) (x3 : Int32) (x4 : Int32) (w : jW) : Option (Int32 × jW) :=
  Option.bind (f_Rows_has 6 x1 w) fun q1 =>
  if q1.1 = 0 then
    some ((-1), q1.2)
  else
    Option.bind (f_State_isSort x2 q1.2) fun q2 =>
    if q2.1 = 0 then
      some ((-1), q2.2)
    else
      Option.bind (f_State_isDay x3 q2.2) fun q3 =>
      if q3.1 = 0 then
        some ((-1), q3.2)
      else
        Option.bind (f_State_isDay x4 q3.2) fun q4 =>
        if q4.1 = 0 then
          some ((-1), q4.2)
        else
          Option.bind (f_Knowing_hear x3 x4 q4.2) fun q5 =>
          Option.bind (f_Knowing_numberTold x1 x2 q5) fun q6 =>
          some (q6.1, q6.2)
set_option maxRecDepth 20000 in
theorem e_Count_toldAt {l : Launch} {G : jG} (hG : jX G) {x1 : Int32} {x2 : Int32} {x3 : Int32} {x4 : Int32} {w : jW} {z : (Int32 × jW)} (h : f_Count_toldAt x1 x2 x3 x4 w = some z) : Ct l G y_Count_toldAt d_Count_toldAt 0 0 [.ref 2, .int x1, .int x2, .int x3, .int x4] jR0 w (some (.int z.1), jR0, z.2) := by
  rw [f_Count_toldAt] at h
  refine Ct.of (L := [some (.ref 2), some (.int x1), some (.int x2), some (.int x3), some (.int x4)]) (by decide) (Nat.le_of_ble_eq_true rfl) rfl ?_
  refine ev_seg (o := 9) (nL := 5) (q := 8) (xs := [(.aload_n 0, 1, 0, 0, .null), (.getfield 12, 3, 9, 0, .ref 6), (.getfield 58, 3, 6, 6, .ref 3), (.iload_n 1, 1, 1, 0, .null)]) (L' := [some (.ref 2), some (.int x1), some (.int x2), some (.int x3), some (.int x4)]) (st' := [.int x1, .ref 6]) (w' := w) (g := []) (K := [(6, 3), (3, 6), (3, 6), (2, 9)]) (by decide +kernel) rfl rfl rfl rfl (jk1 kz_6 (jk1 kz_3 (jk1 kz_3 (jk1 kz_2 jk0)))) ?_
  obtain ⟨q1, hq1, h⟩ := jbe h
  refine ev_callV (ci := 3) (a := 6) (y2 := y_Rows_has) (o := 9) (idx := 80) (d2 := d_Rows_has) (n := 1) (mc2 := 0) (ms2 := 0) (As := [.int x1]) (st := []) (res2 := (some (.int q1.1), jR0, q1.2)) (by decide +kernel) rfl lk_9_80 mo_Rows_has mv_Rows_has ⟨Nat.le_of_ble_eq_true rfl, Nat.le_of_ble_eq_true rfl⟩ rfl rfl kz_6 (by decide) rfl (Nat.le_of_ble_eq_true rfl) ⟨Nat.le_refl _, Nat.le_refl _⟩ hG (e_Rows_has hG kz_6 hq1) ?_
  refine ev_if_eq (off := 25) (tgt := 36) (by decide +kernel) (by decide) (fun c10 => ?_) (fun c10 => ?_)
  · replace h := jpos c10 h
    refine ev_seg (o := 9) (nL := 5) (q := 37) (xs := [(.iconst (-1), 1, 0, 0, .int (-1))]) (L' := [some (.ref 2), some (.int x1), some (.int x2), some (.int x3), some (.int x4)]) (st' := [.int (-1)]) (w' := q1.2) (g := []) (K := []) (by decide +kernel) rfl rfl rfl rfl jk0 ?_
    cases h
    exact ev_iret (by decide +kernel) rfl rfl rfl rfl
  · replace h := jneg c10 h
    refine ev_seg (o := 9) (nL := 5) (q := 15) (xs := [(.iload_n 2, 1, 2, 0, .null)]) (L' := [some (.ref 2), some (.int x1), some (.int x2), some (.int x3), some (.int x4)]) (st' := [.int x2]) (w' := q1.2) (g := []) (K := []) (by decide +kernel) rfl rfl rfl rfl jk0 ?_
    obtain ⟨q2, hq2, h⟩ := jbe h
    refine ev_callS (y2 := y_State_isSort) (o := 9) (idx := 97) (d2 := d_State_isSort) (n := 1) (mc2 := 0) (ms2 := 0) (As := [.int x2]) (st := []) (res2 := (some (.int q2.1), jR0, q2.2)) (by decide +kernel) rfl lk_9_97 mo_State_isSort ms_State_isSort ⟨Nat.le_of_ble_eq_true rfl, Nat.le_of_ble_eq_true rfl⟩ rfl rfl (Nat.le_of_ble_eq_true rfl) ⟨Nat.le_refl _, Nat.le_refl _⟩ hG (e_State_isSort hG hq2) ?_
    refine ev_if_eq (off := 18) (tgt := 36) (by decide +kernel) (by decide) (fun c9 => ?_) (fun c9 => ?_)
    · replace h := jpos c9 h
      refine ev_seg (o := 9) (nL := 5) (q := 37) (xs := [(.iconst (-1), 1, 0, 0, .int (-1))]) (L' := [some (.ref 2), some (.int x1), some (.int x2), some (.int x3), some (.int x4)]) (st' := [.int (-1)]) (w' := q2.2) (g := []) (K := []) (by decide +kernel) rfl rfl rfl rfl jk0 ?_
      cases h
      exact ev_iret (by decide +kernel) rfl rfl rfl rfl
    · replace h := jneg c9 h
      refine ev_seg (o := 9) (nL := 5) (q := 22) (xs := [(.iload_n 3, 1, 3, 0, .null)]) (L' := [some (.ref 2), some (.int x1), some (.int x2), some (.int x3), some (.int x4)]) (st' := [.int x3]) (w' := q2.2) (g := []) (K := []) (by decide +kernel) rfl rfl rfl rfl jk0 ?_
      obtain ⟨q3, hq3, h⟩ := jbe h
      refine ev_callS (y2 := y_State_isDay) (o := 9) (idx := 151) (d2 := d_State_isDay) (n := 1) (mc2 := 0) (ms2 := 0) (As := [.int x3]) (st := []) (res2 := (some (.int q3.1), jR0, q3.2)) (by decide +kernel) rfl lk_9_151 mo_State_isDay ms_State_isDay ⟨Nat.le_of_ble_eq_true rfl, Nat.le_of_ble_eq_true rfl⟩ rfl rfl (Nat.le_of_ble_eq_true rfl) ⟨Nat.le_refl _, Nat.le_refl _⟩ hG (e_State_isDay hG hq3) ?_
      refine ev_if_eq (off := 11) (tgt := 36) (by decide +kernel) (by decide) (fun c8 => ?_) (fun c8 => ?_)
      · replace h := jpos c8 h
        refine ev_seg (o := 9) (nL := 5) (q := 37) (xs := [(.iconst (-1), 1, 0, 0, .int (-1))]) (L' := [some (.ref 2), some (.int x1), some (.int x2), some (.int x3), some (.int x4)]) (st' := [.int (-1)]) (w' := q3.2) (g := []) (K := []) (by decide +kernel) rfl rfl rfl rfl jk0 ?_
        cases h
        exact ev_iret (by decide +kernel) rfl rfl rfl rfl
      · replace h := jneg c8 h
        refine ev_seg (o := 9) (nL := 5) (q := 30) (xs := [(.iload 4, 2, 4, 0, .null)]) (L' := [some (.ref 2), some (.int x1), some (.int x2), some (.int x3), some (.int x4)]) (st' := [.int x4]) (w' := q3.2) (g := []) (K := []) (by decide +kernel) rfl rfl rfl rfl jk0 ?_
        obtain ⟨q4, hq4, h⟩ := jbe h
        refine ev_callS (y2 := y_State_isDay) (o := 9) (idx := 151) (d2 := d_State_isDay) (n := 1) (mc2 := 0) (ms2 := 0) (As := [.int x4]) (st := []) (res2 := (some (.int q4.1), jR0, q4.2)) (by decide +kernel) rfl lk_9_151 mo_State_isDay ms_State_isDay ⟨Nat.le_of_ble_eq_true rfl, Nat.le_of_ble_eq_true rfl⟩ rfl rfl (Nat.le_of_ble_eq_true rfl) ⟨Nat.le_refl _, Nat.le_refl _⟩ hG (e_State_isDay hG hq4) ?_
        refine ev_if_ne (off := 5) (tgt := 38) (by decide +kernel) (by decide) (fun c7 => ?_) (fun c7 => ?_)
        · replace h := jneg c7 h
          refine ev_seg (o := 9) (nL := 5) (q := 49) (xs := [(.aload_n 0, 1, 0, 0, .null), (.getfield 29, 3, 9, 3, .ref 1), (.aload_n 0, 1, 0, 0, .null), (.getfield 12, 3, 9, 0, .ref 6), (.iload_n 3, 1, 3, 0, .null), (.iload 4, 2, 4, 0, .null)]) (L' := [some (.ref 2), some (.int x1), some (.int x2), some (.int x3), some (.int x4)]) (st' := [.int x4, .int x3, .ref 3, .ref 83]) (w' := q4.2) (g := []) (K := [(3, 6), (2, 9), (83, 1), (2, 9)]) (by decide +kernel) rfl rfl rfl rfl (jk1 kz_3 (jk1 kz_2 (jk1 kz_83 (jk1 kz_2 jk0)))) ?_
          obtain ⟨q5, hq5, h⟩ := jbe h
          refine ev_callV (ci := 1) (a := 83) (y2 := y_Knowing_hear) (o := 9) (idx := 206) (d2 := d_Knowing_hear) (n := 3) (mc2 := 0) (ms2 := 0) (As := [.ref 3, .int x3, .int x4]) (st := []) (res2 := (none, jR0, q5)) (by decide +kernel) rfl lk_9_206 mo_Knowing_hear mv_Knowing_hear ⟨Nat.le_of_ble_eq_true rfl, Nat.le_of_ble_eq_true rfl⟩ rfl rfl kz_83 (by decide) rfl (Nat.le_of_ble_eq_true rfl) ⟨Nat.le_refl _, Nat.le_refl _⟩ hG (e_Knowing_hear hG hq5) ?_
          refine ev_seg (o := 9) (nL := 5) (q := 62) (xs := [(.aload_n 0, 1, 0, 0, .null), (.getfield 29, 3, 9, 3, .ref 1), (.aload_n 0, 1, 0, 0, .null), (.getfield 12, 3, 9, 0, .ref 6), (.iload_n 1, 1, 1, 0, .null), (.iload_n 2, 1, 2, 0, .null)]) (L' := [some (.ref 2), some (.int x1), some (.int x2), some (.int x3), some (.int x4)]) (st' := [.int x2, .int x1, .ref 3, .ref 83]) (w' := q5) (g := []) (K := [(3, 6), (2, 9), (83, 1), (2, 9)]) (by decide +kernel) rfl rfl rfl rfl (jk1 kz_3 (jk1 kz_2 (jk1 kz_83 (jk1 kz_2 jk0)))) ?_
          obtain ⟨q6, hq6, h⟩ := jbe h
          refine ev_callV (ci := 1) (a := 83) (y2 := y_Knowing_numberTold) (o := 9) (idx := 214) (d2 := d_Knowing_numberTold) (n := 3) (mc2 := 0) (ms2 := 0) (As := [.ref 3, .int x1, .int x2]) (st := []) (res2 := (some (.int q6.1), jR0, q6.2)) (by decide +kernel) rfl lk_9_214 mo_Knowing_numberTold mv_Knowing_numberTold ⟨Nat.le_of_ble_eq_true rfl, Nat.le_of_ble_eq_true rfl⟩ rfl rfl kz_83 (by decide) rfl (Nat.le_of_ble_eq_true rfl) ⟨Nat.le_refl _, Nat.le_refl _⟩ hG (e_Knowing_numberTold hG hq6) ?_
          cases h
          exact ev_iret (by decide +kernel) rfl rfl rfl rfl
        · replace h := jpos c7 h
          refine ev_seg (o := 9) (nL := 5) (q := 37) (xs := [(.iconst (-1), 1, 0, 0, .int (-1))]) (L' := [some (.ref 2), some (.int x1), some (.int x2), some (.int x3), some (.int x4)]) (st' := [.int (-1)]) (w' := q4.2) (g := []) (K := []) (by decide +kernel) rfl rfl rfl rfl jk0 ?_
          cases h
          exact ev_iret (by decide +kernel) rfl rfl rfl rfl
def f_Count_isAbroad (x1 : Int32) (x2 : Int32) (w : jW) : Option (Int32 × jW) :=
  Option.bind (f_State_isLand x1 w) fun q1 =>
  if q1.1 = 0 then
    some (0, q1.2)
  else
    Option.bind (f_Rows_has 6 x2 q1.2) fun q2 =>
    if q2.1 = 0 then
      some (0, q2.2)
    else
      Option.bind (f_Rows_at 6 x2 0 q2.2) fun q3 =>
      if q3.1 = x1 then
        some (0, q3.2)
      else
        some (1, q3.2)
set_option maxRecDepth 20000 in
theorem e_Count_isAbroad {l : Launch} {G : jG} (hG : jX G) {x1 : Int32} {x2 : Int32} {w : jW} {z : (Int32 × jW)} (h : f_Count_isAbroad x1 x2 w = some z) : Ct l G y_Count_isAbroad d_Count_isAbroad 0 0 [.ref 2, .int x1, .int x2] jR0 w (some (.int z.1), jR0, z.2) := by
  rw [f_Count_isAbroad] at h
  refine Ct.of (L := [some (.ref 2), some (.int x1), some (.int x2)]) (by decide) (Nat.le_of_ble_eq_true rfl) rfl ?_
  refine ev_seg (o := 9) (nL := 3) (q := 1) (xs := [(.iload_n 1, 1, 1, 0, .null)]) (L' := [some (.ref 2), some (.int x1), some (.int x2)]) (st' := [.int x1]) (w' := w) (g := []) (K := []) (by decide +kernel) rfl rfl rfl rfl jk0 ?_
  obtain ⟨q1, hq1, h⟩ := jbe h
  refine ev_callS (y2 := y_State_isLand) (o := 9) (idx := 54) (d2 := d_State_isLand) (n := 1) (mc2 := 0) (ms2 := 0) (As := [.int x1]) (st := []) (res2 := (some (.int q1.1), jR0, q1.2)) (by decide +kernel) rfl lk_9_54 mo_State_isLand ms_State_isLand ⟨Nat.le_of_ble_eq_true rfl, Nat.le_of_ble_eq_true rfl⟩ rfl rfl (Nat.le_of_ble_eq_true rfl) ⟨Nat.le_refl _, Nat.le_refl _⟩ hG (e_State_isLand hG hq1) ?_
  refine ev_if_eq (off := 37) (tgt := 41) (by decide +kernel) (by decide) (fun c6 => ?_) (fun c6 => ?_)
  · replace h := jpos c6 h
    refine ev_seg (o := 9) (nL := 3) (q := 42) (xs := [(.iconst 0, 1, 0, 0, .int 0)]) (L' := [some (.ref 2), some (.int x1), some (.int x2)]) (st' := [.int 0]) (w' := q1.2) (g := []) (K := []) (by decide +kernel) rfl rfl rfl rfl jk0 ?_
    cases h
    exact ev_zret (by decide +kernel) rfl rfl rfl rfl rfl
  · replace h := jneg c6 h
    refine ev_seg (o := 9) (nL := 3) (q := 15) (xs := [(.aload_n 0, 1, 0, 0, .null), (.getfield 12, 3, 9, 0, .ref 6), (.getfield 58, 3, 6, 6, .ref 3), (.iload_n 2, 1, 2, 0, .null)]) (L' := [some (.ref 2), some (.int x1), some (.int x2)]) (st' := [.int x2, .ref 6]) (w' := q1.2) (g := []) (K := [(6, 3), (3, 6), (3, 6), (2, 9)]) (by decide +kernel) rfl rfl rfl rfl (jk1 kz_6 (jk1 kz_3 (jk1 kz_3 (jk1 kz_2 jk0)))) ?_
    obtain ⟨q2, hq2, h⟩ := jbe h
    refine ev_callV (ci := 3) (a := 6) (y2 := y_Rows_has) (o := 9) (idx := 80) (d2 := d_Rows_has) (n := 1) (mc2 := 0) (ms2 := 0) (As := [.int x2]) (st := []) (res2 := (some (.int q2.1), jR0, q2.2)) (by decide +kernel) rfl lk_9_80 mo_Rows_has mv_Rows_has ⟨Nat.le_of_ble_eq_true rfl, Nat.le_of_ble_eq_true rfl⟩ rfl rfl kz_6 (by decide) rfl (Nat.le_of_ble_eq_true rfl) ⟨Nat.le_refl _, Nat.le_refl _⟩ hG (e_Rows_has hG kz_6 hq2) ?_
    refine ev_if_eq (off := 23) (tgt := 41) (by decide +kernel) (by decide) (fun c5 => ?_) (fun c5 => ?_)
    · replace h := jpos c5 h
      refine ev_seg (o := 9) (nL := 3) (q := 42) (xs := [(.iconst 0, 1, 0, 0, .int 0)]) (L' := [some (.ref 2), some (.int x1), some (.int x2)]) (st' := [.int 0]) (w' := q2.2) (g := []) (K := []) (by decide +kernel) rfl rfl rfl rfl jk0 ?_
      cases h
      exact ev_zret (by decide +kernel) rfl rfl rfl rfl rfl
    · replace h := jneg c5 h
      refine ev_seg (o := 9) (nL := 3) (q := 30) (xs := [(.aload_n 0, 1, 0, 0, .null), (.getfield 12, 3, 9, 0, .ref 6), (.getfield 58, 3, 6, 6, .ref 3), (.iload_n 2, 1, 2, 0, .null), (.iconst 0, 1, 0, 0, .int 0)]) (L' := [some (.ref 2), some (.int x1), some (.int x2)]) (st' := [.int 0, .int x2, .ref 6]) (w' := q2.2) (g := []) (K := [(6, 3), (3, 6), (3, 6), (2, 9)]) (by decide +kernel) rfl rfl rfl rfl (jk1 kz_6 (jk1 kz_3 (jk1 kz_3 (jk1 kz_2 jk0)))) ?_
      obtain ⟨q3, hq3, h⟩ := jbe h
      refine ev_callV (ci := 3) (a := 6) (y2 := y_Rows_at) (o := 9) (idx := 83) (d2 := d_Rows_at) (n := 2) (mc2 := 0) (ms2 := 0) (As := [.int x2, .int 0]) (st := []) (res2 := (some (.int q3.1), jR0, q3.2)) (by decide +kernel) rfl lk_9_83 mo_Rows_at mv_Rows_at ⟨Nat.le_of_ble_eq_true rfl, Nat.le_of_ble_eq_true rfl⟩ rfl rfl kz_6 (by decide) rfl (Nat.le_of_ble_eq_true rfl) ⟨Nat.le_refl _, Nat.le_refl _⟩ hG (e_Rows_at hG kz_6 hq3) ?_
      refine ev_seg (o := 9) (nL := 3) (q := 34) (xs := [(.iload_n 1, 1, 1, 0, .null)]) (L' := [some (.ref 2), some (.int x1), some (.int x2)]) (st' := [.int x1, .int q3.1]) (w' := q3.2) (g := []) (K := []) (by decide +kernel) rfl rfl rfl rfl jk0 ?_
      refine ev_icmp_eq (off := 7) (tgt := 41) (by decide +kernel) (by decide) (fun c4 => ?_) (fun c4 => ?_)
      · replace h := jpos c4 h
        refine ev_seg (o := 9) (nL := 3) (q := 42) (xs := [(.iconst 0, 1, 0, 0, .int 0)]) (L' := [some (.ref 2), some (.int x1), some (.int x2)]) (st' := [.int 0]) (w' := q3.2) (g := []) (K := []) (by decide +kernel) rfl rfl rfl rfl jk0 ?_
        cases h
        exact ev_zret (by decide +kernel) rfl rfl rfl rfl rfl
      · replace h := jneg c4 h
        refine ev_seg (o := 9) (nL := 3) (q := 42) (xs := [(.iconst 1, 1, 0, 0, .int 1), (.goto 4, 3, 0, 0, .null)]) (L' := [some (.ref 2), some (.int x1), some (.int x2)]) (st' := [.int 1]) (w' := q3.2) (g := []) (K := []) (by decide +kernel) rfl rfl rfl rfl jk0 ?_
        cases h
        exact ev_zret (by decide +kernel) rfl rfl rfl rfl rfl
def f_State_lookAround_j92 (k25 : Int32 → Int32 → Int32 → Int32 → Int32 → Int32 → jW → Option jW) (x1 : Int32) (x2 : Int32) (x3 : Int32) (x4 : Int32) (x5 : Int32) (x6 : Int32) (s0 : Int32) (w : jW) : Option jW :=
  Option.bind (f_Rows_at 26 x1 s0 w) fun q8 =>
  Option.bind (f_Rows_put 26 x1 s0 (q8.1 + 1) q8.2) fun q9 =>
  k25 x1 x2 x3 x4 x5 (x6 + 1) q9
set_option maxRecDepth 20000 in
theorem t_State_lookAround_j92 {l : Launch} {G : jG} (hG : jX G) {k25 : Int32 → Int32 → Int32 → Int32 → Int32 → Int32 → jW → Option jW} (hk25 : ∀ (x1 : Int32) (x2 : Int32) (x3 : Int32) (x4 : Int32) (x5 : Int32) (x6 : Int32) (w : jW) (z : jW), k25 x1 x2 x3 x4 x5 x6 w = some z → Ev l G (jrm d_State_lookAround 0 0) y_State_lookAround (none, jR0, z) 0 0 0 0 25 [some (.ref 3), some (.int x1), some (.int x2), some (.int x3), some (.int x4), some (.int x5), some (.int x6), none] [] jR0 w) {x1 : Int32} {x2 : Int32} {x3 : Int32} {x4 : Int32} {x5 : Int32} {x6 : Int32} {s0 : Int32} {w : jW} {z : jW} (h : f_State_lookAround_j92 k25 x1 x2 x3 x4 x5 x6 s0 w = some z) : Ev l G (jrm d_State_lookAround 0 0) y_State_lookAround (none, jR0, z) 0 0 0 0 92 [some (.ref 3), some (.int x1), some (.int x2), some (.int x3), some (.int x4), some (.int x5), some (.int x6), none] [.int s0] jR0 w := by
  rw [f_State_lookAround_j92] at h
  refine ev_seg (o := 6) (nL := 8) (q := 108) (xs := [(.istore 7, 2, 7, 0, .null), (.aload_n 0, 1, 0, 0, .null), (.getfield 61, 3, 6, 13, .ref 3), (.iload_n 1, 1, 1, 0, .null), (.iload 7, 2, 7, 0, .null), (.aload_n 0, 1, 0, 0, .null), (.getfield 61, 3, 6, 13, .ref 3), (.iload_n 1, 1, 1, 0, .null), (.iload 7, 2, 7, 0, .null)]) (L' := [some (.ref 3), some (.int x1), some (.int x2), some (.int x3), some (.int x4), some (.int x5), some (.int x6), some (.int s0)]) (st' := [.int s0, .int x1, .ref 26, .int s0, .int x1, .ref 26]) (w' := w) (g := []) (K := [(26, 3), (3, 6), (26, 3), (3, 6)]) (by decide +kernel) rfl rfl rfl rfl (jk1 kz_26 (jk1 kz_3 (jk1 kz_26 (jk1 kz_3 jk0)))) ?_
  obtain ⟨q8, hq8, h⟩ := jbe h
  refine ev_callV (ci := 3) (a := 26) (y2 := y_Rows_at) (o := 6) (idx := 91) (d2 := d_Rows_at) (n := 2) (mc2 := 0) (ms2 := 0) (As := [.int x1, .int s0]) (st := [.int s0, .int x1, .ref 26]) (res2 := (some (.int q8.1), jR0, q8.2)) (by decide +kernel) rfl lk_6_91 mo_Rows_at mv_Rows_at ⟨Nat.le_of_ble_eq_true rfl, Nat.le_of_ble_eq_true rfl⟩ rfl rfl kz_26 (by decide) rfl (Nat.le_of_ble_eq_true rfl) ⟨Nat.le_refl _, Nat.le_refl _⟩ hG (e_Rows_at hG kz_26 hq8) ?_
  refine ev_seg (o := 6) (nL := 8) (q := 113) (xs := [(.iconst 1, 1, 0, 0, .int 1), (.iadd, 1, 0, 0, .null)]) (L' := [some (.ref 3), some (.int x1), some (.int x2), some (.int x3), some (.int x4), some (.int x5), some (.int x6), some (.int s0)]) (st' := [.int (q8.1 + 1), .int s0, .int x1, .ref 26]) (w' := q8.2) (g := []) (K := []) (by decide +kernel) rfl rfl rfl rfl jk0 ?_
  obtain ⟨q9, hq9, h⟩ := jbe h
  refine ev_callV (ci := 3) (a := 26) (y2 := y_Rows_put) (o := 6) (idx := 83) (d2 := d_Rows_put) (n := 3) (mc2 := 0) (ms2 := 0) (As := [.int x1, .int s0, .int (q8.1 + 1)]) (st := []) (res2 := (none, jR0, q9)) (by decide +kernel) rfl lk_6_83 mo_Rows_put mv_Rows_put ⟨Nat.le_of_ble_eq_true rfl, Nat.le_of_ble_eq_true rfl⟩ rfl rfl kz_26 (by decide) rfl (Nat.le_of_ble_eq_true rfl) ⟨Nat.le_refl _, Nat.le_refl _⟩ hG (e_Rows_put hG kz_26 hq9) ?_
  refine ev_seg (o := 6) (nL := 8) (q := 25) (xs := [(.iinc 6 1, 3, 6, 0, .int 1), (.goto (-94), 3, 0, 0, .null)]) (L' := [some (.ref 3), some (.int x1), some (.int x2), some (.int x3), some (.int x4), some (.int x5), some (.int (x6 + 1)), some (.int s0)]) (st' := []) (w' := q9) (g := []) (K := []) (by decide +kernel) rfl rfl rfl rfl jk0 ?_
  refine ev_mask [true, true, true, true, true, true, true, false] ?_
  exact hk25 _ _ _ _ _ _ _ _ h
def f_State_lookAround_h25 : Nat → Int32 → Int32 → Int32 → Int32 → Int32 → Int32 → jW → Option jW
  | 0, _, _, _, _, _, _, _ => none
  | n + 1, x1, x2, x3, x4, x5, x6, w =>
  Option.bind (f_Rows_count 10 w) fun q3 =>
  if x6 < q3.1 then
    Option.bind (f_State_placeOn x6 (x3 - 1) q3.2) fun q4 =>
    if q4.1 = x2 then
      Option.bind (f_Treaty_look 10 x6 x5 q4.2) fun q5 =>
      Option.bind (f_Treaty_someHolds x4 4 q5) fun q6 =>
      if q6.1 = 0 then
        Option.bind (f_Rows_at 10 x6 0 q6.2) fun q7 =>
        f_State_lookAround_j92 (f_State_lookAround_h25 n) x1 x2 x3 x4 x5 x6 q7.1 q7.2
      else
        f_State_lookAround_j92 (f_State_lookAround_h25 n) x1 x2 x3 x4 x5 x6 4 q6.2
    else
      (f_State_lookAround_h25 n) x1 x2 x3 x4 x5 (x6 + 1) q4.2
  else
    some q3.2
set_option maxRecDepth 20000 in
theorem t_State_lookAround_h25 {l : Launch} {G : jG} (hG : jX G) : ∀ (n : Nat) (x1 : Int32) (x2 : Int32) (x3 : Int32) (x4 : Int32) (x5 : Int32) (x6 : Int32) (w : jW) (z : jW), f_State_lookAround_h25 n x1 x2 x3 x4 x5 x6 w = some z → Ev l G (jrm d_State_lookAround 0 0) y_State_lookAround (none, jR0, z) 0 0 0 0 25 [some (.ref 3), some (.int x1), some (.int x2), some (.int x3), some (.int x4), some (.int x5), some (.int x6), none] [] jR0 w := by
  intro n
  induction n with
  | zero => intro x1 x2 x3 x4 x5 x6 w z h; simp only [f_State_lookAround_h25] at h; cases h
  | succ n ih =>
    intro x1 x2 x3 x4 x5 x6 w z h
    rw [f_State_lookAround_h25] at h
    refine ev_seg (o := 6) (nL := 8) (q := 31) (xs := [(.iload 6, 2, 6, 0, .null), (.aload_n 0, 1, 0, 0, .null), (.getfield 42, 3, 6, 8, .ref 3)]) (L' := [some (.ref 3), some (.int x1), some (.int x2), some (.int x3), some (.int x4), some (.int x5), some (.int x6), none]) (st' := [.ref 10, .int x6]) (w' := w) (g := []) (K := [(10, 3), (3, 6)]) (by decide +kernel) rfl rfl rfl rfl (jk1 kz_10 (jk1 kz_3 jk0)) ?_
    obtain ⟨q3, hq3, h⟩ := jbe h
    refine ev_callV (ci := 3) (a := 10) (y2 := y_Rows_count) (o := 6) (idx := 87) (d2 := d_Rows_count) (n := 0) (mc2 := 0) (ms2 := 0) (As := []) (st := [.int x6]) (res2 := (some (.int q3.1), jR0, q3.2)) (by decide +kernel) rfl lk_6_87 mo_Rows_count mv_Rows_count ⟨Nat.le_of_ble_eq_true rfl, Nat.le_of_ble_eq_true rfl⟩ rfl rfl kz_10 (by decide) rfl (Nat.le_of_ble_eq_true rfl) ⟨Nat.le_refl _, Nat.le_refl _⟩ hG (e_Rows_count hG kz_10 hq3) ?_
    refine ev_icmp_ge (off := 88) (tgt := 122) (by decide +kernel) (by decide) (fun c12 => ?_) (fun c12 => ?_)
    · replace h := jneg c12 h
      cases h
      exact ev_vret (by decide +kernel) rfl rfl rfl rfl
    · replace h := jpos c12 h
      refine ev_seg (o := 6) (nL := 8) (q := 43) (xs := [(.aload_n 0, 1, 0, 0, .null), (.iload 6, 2, 6, 0, .null), (.iload_n 3, 1, 3, 0, .null), (.iconst 1, 1, 0, 0, .int 1), (.isub, 1, 0, 0, .null)]) (L' := [some (.ref 3), some (.int x1), some (.int x2), some (.int x3), some (.int x4), some (.int x5), some (.int x6), none]) (st' := [.int (x3 - 1), .int x6, .ref 3]) (w' := q3.2) (g := []) (K := []) (by decide +kernel) rfl rfl rfl rfl jk0 ?_
      obtain ⟨q4, hq4, h⟩ := jbe h
      refine ev_callV (ci := 6) (a := 3) (y2 := y_State_placeOn) (o := 6) (idx := 116) (d2 := d_State_placeOn) (n := 2) (mc2 := 0) (ms2 := 0) (As := [.int x6, .int (x3 - 1)]) (st := []) (res2 := (some (.int q4.1), jR0, q4.2)) (by decide +kernel) rfl lk_6_116 mo_State_placeOn mv_State_placeOn ⟨Nat.le_of_ble_eq_true rfl, Nat.le_of_ble_eq_true rfl⟩ rfl rfl kz_3 (by decide) rfl (Nat.le_of_ble_eq_true rfl) ⟨Nat.le_refl _, Nat.le_refl _⟩ hG (e_State_placeOn hG hq4) ?_
      refine ev_seg (o := 6) (nL := 8) (q := 47) (xs := [(.iload_n 2, 1, 2, 0, .null)]) (L' := [some (.ref 3), some (.int x1), some (.int x2), some (.int x3), some (.int x4), some (.int x5), some (.int x6), none]) (st' := [.int x2, .int q4.1]) (w' := q4.2) (g := []) (K := []) (by decide +kernel) rfl rfl rfl rfl jk0 ?_
      refine ev_icmp_ne (off := 69) (tgt := 116) (by decide +kernel) (by decide) (fun c11 => ?_) (fun c11 => ?_)
      · replace h := jneg c11 h
        refine ev_seg (o := 6) (nL := 8) (q := 25) (xs := [(.iinc 6 1, 3, 6, 0, .int 1), (.goto (-94), 3, 0, 0, .null)]) (L' := [some (.ref 3), some (.int x1), some (.int x2), some (.int x3), some (.int x4), some (.int x5), some (.int (x6 + 1)), none]) (st' := []) (w' := q4.2) (g := []) (K := []) (by decide +kernel) rfl rfl rfl rfl jk0 ?_
        refine ev_mask [true, true, true, true, true, true, true, false] ?_
        exact ih _ _ _ _ _ _ _ _ h
      · replace h := jpos c11 h
        refine ev_seg (o := 6) (nL := 8) (q := 62) (xs := [(.aload_n 0, 1, 0, 0, .null), (.getfield 54, 3, 6, 11, .ref 8), (.aload_n 0, 1, 0, 0, .null), (.getfield 42, 3, 6, 8, .ref 3), (.iload 6, 2, 6, 0, .null), (.iload 5, 2, 5, 0, .null)]) (L' := [some (.ref 3), some (.int x1), some (.int x2), some (.int x3), some (.int x4), some (.int x5), some (.int x6), none]) (st' := [.int x5, .int x6, .ref 10, .ref 16]) (w' := q4.2) (g := []) (K := [(10, 3), (3, 6), (16, 8), (3, 6)]) (by decide +kernel) rfl rfl rfl rfl (jk1 kz_10 (jk1 kz_3 (jk1 kz_16 (jk1 kz_3 jk0)))) ?_
        obtain ⟨q5, hq5, h⟩ := jbe h
        refine ev_callV (ci := 8) (a := 16) (y2 := y_Treaty_look) (o := 6) (idx := 106) (d2 := d_Treaty_look) (n := 3) (mc2 := 0) (ms2 := 0) (As := [.ref 10, .int x6, .int x5]) (st := []) (res2 := (none, jR0, q5)) (by decide +kernel) rfl lk_6_106 mo_Treaty_look mv_Treaty_look ⟨Nat.le_of_ble_eq_true rfl, Nat.le_of_ble_eq_true rfl⟩ rfl rfl kz_16 (by decide) rfl (Nat.le_of_ble_eq_true rfl) ⟨Nat.le_refl _, Nat.le_refl _⟩ hG (e_Treaty_look hG kz_10 hq5) ?_
        refine ev_seg (o := 6) (nL := 8) (q := 72) (xs := [(.aload_n 0, 1, 0, 0, .null), (.getfield 54, 3, 6, 11, .ref 8), (.iload 4, 2, 4, 0, .null), (.iconst 4, 1, 0, 0, .int 4)]) (L' := [some (.ref 3), some (.int x1), some (.int x2), some (.int x3), some (.int x4), some (.int x5), some (.int x6), none]) (st' := [.int 4, .int x4, .ref 16]) (w' := q5) (g := []) (K := [(16, 8), (3, 6)]) (by decide +kernel) rfl rfl rfl rfl (jk1 kz_16 (jk1 kz_3 jk0)) ?_
        obtain ⟨q6, hq6, h⟩ := jbe h
        refine ev_callV (ci := 8) (a := 16) (y2 := y_Treaty_someHolds) (o := 6) (idx := 110) (d2 := d_Treaty_someHolds) (n := 2) (mc2 := 0) (ms2 := 0) (As := [.int x4, .int 4]) (st := []) (res2 := (some (.int q6.1), jR0, q6.2)) (by decide +kernel) rfl lk_6_110 mo_Treaty_someHolds mv_Treaty_someHolds ⟨Nat.le_of_ble_eq_true rfl, Nat.le_of_ble_eq_true rfl⟩ rfl rfl kz_16 (by decide) rfl (Nat.le_of_ble_eq_true rfl) ⟨Nat.le_refl _, Nat.le_refl _⟩ hG (e_Treaty_someHolds hG hq6) ?_
        refine ev_if_eq (off := 7) (tgt := 82) (by decide +kernel) (by decide) (fun c10 => ?_) (fun c10 => ?_)
        · replace h := jpos c10 h
          refine ev_seg (o := 6) (nL := 8) (q := 89) (xs := [(.aload_n 0, 1, 0, 0, .null), (.getfield 42, 3, 6, 8, .ref 3), (.iload 6, 2, 6, 0, .null), (.iconst 0, 1, 0, 0, .int 0)]) (L' := [some (.ref 3), some (.int x1), some (.int x2), some (.int x3), some (.int x4), some (.int x5), some (.int x6), none]) (st' := [.int 0, .int x6, .ref 10]) (w' := q6.2) (g := []) (K := [(10, 3), (3, 6)]) (by decide +kernel) rfl rfl rfl rfl (jk1 kz_10 (jk1 kz_3 jk0)) ?_
          obtain ⟨q7, hq7, h⟩ := jbe h
          refine ev_callV (ci := 3) (a := 10) (y2 := y_Rows_at) (o := 6) (idx := 91) (d2 := d_Rows_at) (n := 2) (mc2 := 0) (ms2 := 0) (As := [.int x6, .int 0]) (st := []) (res2 := (some (.int q7.1), jR0, q7.2)) (by decide +kernel) rfl lk_6_91 mo_Rows_at mv_Rows_at ⟨Nat.le_of_ble_eq_true rfl, Nat.le_of_ble_eq_true rfl⟩ rfl rfl kz_10 (by decide) rfl (Nat.le_of_ble_eq_true rfl) ⟨Nat.le_refl _, Nat.le_refl _⟩ hG (e_Rows_at hG kz_10 hq7) ?_
          refine ev_mask [true, true, true, true, true, true, true, false] ?_
          exact t_State_lookAround_j92 hG ih h
        · replace h := jneg c10 h
          refine ev_seg (o := 6) (nL := 8) (q := 92) (xs := [(.iconst 4, 1, 0, 0, .int 4), (.goto 13, 3, 0, 0, .null)]) (L' := [some (.ref 3), some (.int x1), some (.int x2), some (.int x3), some (.int x4), some (.int x5), some (.int x6), none]) (st' := [.int 4]) (w' := q6.2) (g := []) (K := []) (by decide +kernel) rfl rfl rfl rfl jk0 ?_
          refine ev_mask [true, true, true, true, true, true, true, false] ?_
          exact t_State_lookAround_j92 hG ih h
def f_State_lookAround (x1 : Int32) (x2 : Int32) (x3 : Int32) (w : jW) : Option jW :=
  Option.bind (f_Treaty_textFor 4 x3 w) fun q1 =>
  Option.bind (f_Rows_at 6 x2 1 q1.2) fun q2 =>
  f_State_lookAround_h25 jfu x1 x2 x3 q1.1 q2.1 0 q2.2
set_option maxRecDepth 20000 in
theorem e_State_lookAround {l : Launch} {G : jG} (hG : jX G) {x1 : Int32} {x2 : Int32} {x3 : Int32} {w : jW} {z : jW} (h : f_State_lookAround x1 x2 x3 w = some z) : Ct l G y_State_lookAround d_State_lookAround 0 0 [.ref 3, .int x1, .int x2, .int x3] jR0 w (none, jR0, z) := by
  rw [f_State_lookAround] at h
  refine Ct.of (L := [some (.ref 3), some (.int x1), some (.int x2), some (.int x3), none, none, none, none]) (by decide) (Nat.le_of_ble_eq_true rfl) rfl ?_
  refine ev_seg (o := 6) (nL := 8) (q := 6) (xs := [(.aload_n 0, 1, 0, 0, .null), (.getfield 54, 3, 6, 11, .ref 8), (.iconst 4, 1, 0, 0, .int 4), (.iload_n 3, 1, 3, 0, .null)]) (L' := [some (.ref 3), some (.int x1), some (.int x2), some (.int x3), none, none, none, none]) (st' := [.int x3, .int 4, .ref 16]) (w' := w) (g := []) (K := [(16, 8), (3, 6)]) (by decide +kernel) rfl rfl rfl rfl (jk1 kz_16 (jk1 kz_3 jk0)) ?_
  obtain ⟨q1, hq1, h⟩ := jbe h
  refine ev_callV (ci := 8) (a := 16) (y2 := y_Treaty_textFor) (o := 6) (idx := 113) (d2 := d_Treaty_textFor) (n := 2) (mc2 := 0) (ms2 := 0) (As := [.int 4, .int x3]) (st := []) (res2 := (some (.int q1.1), jR0, q1.2)) (by decide +kernel) rfl lk_6_113 mo_Treaty_textFor mv_Treaty_textFor ⟨Nat.le_of_ble_eq_true rfl, Nat.le_of_ble_eq_true rfl⟩ rfl rfl kz_16 (by decide) rfl (Nat.le_of_ble_eq_true rfl) ⟨Nat.le_refl _, Nat.le_refl _⟩ hG (e_Treaty_textFor hG hq1) ?_
  refine ev_seg (o := 6) (nL := 8) (q := 17) (xs := [(.istore 4, 2, 4, 0, .null), (.aload_n 0, 1, 0, 0, .null), (.getfield 36, 3, 6, 6, .ref 3), (.iload_n 2, 1, 2, 0, .null), (.iconst 1, 1, 0, 0, .int 1)]) (L' := [some (.ref 3), some (.int x1), some (.int x2), some (.int x3), some (.int q1.1), none, none, none]) (st' := [.int 1, .int x2, .ref 6]) (w' := q1.2) (g := []) (K := [(6, 3), (3, 6)]) (by decide +kernel) rfl rfl rfl rfl (jk1 kz_6 (jk1 kz_3 jk0)) ?_
  obtain ⟨q2, hq2, h⟩ := jbe h
  refine ev_callV (ci := 3) (a := 6) (y2 := y_Rows_at) (o := 6) (idx := 91) (d2 := d_Rows_at) (n := 2) (mc2 := 0) (ms2 := 0) (As := [.int x2, .int 1]) (st := []) (res2 := (some (.int q2.1), jR0, q2.2)) (by decide +kernel) rfl lk_6_91 mo_Rows_at mv_Rows_at ⟨Nat.le_of_ble_eq_true rfl, Nat.le_of_ble_eq_true rfl⟩ rfl rfl kz_6 (by decide) rfl (Nat.le_of_ble_eq_true rfl) ⟨Nat.le_refl _, Nat.le_refl _⟩ hG (e_Rows_at hG kz_6 hq2) ?_
  refine ev_seg (o := 6) (nL := 8) (q := 25) (xs := [(.istore 5, 2, 5, 0, .null), (.iconst 0, 1, 0, 0, .int 0), (.istore 6, 2, 6, 0, .null)]) (L' := [some (.ref 3), some (.int x1), some (.int x2), some (.int x3), some (.int q1.1), some (.int q2.1), some (.int 0), none]) (st' := []) (w' := q2.2) (g := []) (K := []) (by decide +kernel) rfl rfl rfl rfl jk0 ?_
  refine ev_mask [true, true, true, true, true, true, true, false] ?_
  exact t_State_lookAround_h25 hG jfu _ _ _ _ _ _ _ _ h
def f_State_lookAtSeal_j33 (x1 : Int32) (x4 : Int32) (s0 : Int32) (w : jW) : Option jW :=
  Option.bind (f_Rows_put 26 x1 5 s0 w) fun q3 =>
  Option.bind (f_Rows_at 14 x4 1 q3) fun q4 =>
  Option.bind (f_Rows_put 26 x1 9 q4.1 q4.2) fun q5 =>
  some q5
set_option maxRecDepth 20000 in
theorem t_State_lookAtSeal_j33 {l : Launch} {G : jG} (hG : jX G) {x1 : Int32} {x4 : Int32} {s0 : Int32} {w : jW} {z : jW} (h : f_State_lookAtSeal_j33 x1 x4 s0 w = some z) : Ev l G (jrm d_State_lookAtSeal 0 0) y_State_lookAtSeal (none, jR0, z) 0 0 0 0 33 [some (.ref 3), some (.int x1), none, none, some (.int x4), none] [.int s0] jR0 w := by
  rw [f_State_lookAtSeal_j33] at h
  refine ev_seg (o := 6) (nL := 6) (q := 43) (xs := [(.istore 5, 2, 5, 0, .null), (.aload_n 0, 1, 0, 0, .null), (.getfield 61, 3, 6, 13, .ref 3), (.iload_n 1, 1, 1, 0, .null), (.iconst 5, 1, 0, 0, .int 5), (.iload 5, 2, 5, 0, .null)]) (L' := [some (.ref 3), some (.int x1), none, none, some (.int x4), some (.int s0)]) (st' := [.int s0, .int 5, .int x1, .ref 26]) (w' := w) (g := []) (K := [(26, 3), (3, 6)]) (by decide +kernel) rfl rfl rfl rfl (jk1 kz_26 (jk1 kz_3 jk0)) ?_
  obtain ⟨q3, hq3, h⟩ := jbe h
  refine ev_callV (ci := 3) (a := 26) (y2 := y_Rows_put) (o := 6) (idx := 83) (d2 := d_Rows_put) (n := 3) (mc2 := 0) (ms2 := 0) (As := [.int x1, .int 5, .int s0]) (st := []) (res2 := (none, jR0, q3)) (by decide +kernel) rfl lk_6_83 mo_Rows_put mv_Rows_put ⟨Nat.le_of_ble_eq_true rfl, Nat.le_of_ble_eq_true rfl⟩ rfl rfl kz_26 (by decide) rfl (Nat.le_of_ble_eq_true rfl) ⟨Nat.le_refl _, Nat.le_refl _⟩ hG (e_Rows_put hG kz_26 hq3) ?_
  refine ev_seg (o := 6) (nL := 6) (q := 60) (xs := [(.aload_n 0, 1, 0, 0, .null), (.getfield 61, 3, 6, 13, .ref 3), (.iload_n 1, 1, 1, 0, .null), (.bipush 9, 2, 0, 0, .int 9), (.aload_n 0, 1, 0, 0, .null), (.getfield 48, 3, 6, 10, .ref 3), (.iload 4, 2, 4, 0, .null), (.iconst 1, 1, 0, 0, .int 1)]) (L' := [some (.ref 3), some (.int x1), none, none, some (.int x4), some (.int s0)]) (st' := [.int 1, .int x4, .ref 14, .int 9, .int x1, .ref 26]) (w' := q3) (g := []) (K := [(14, 3), (3, 6), (26, 3), (3, 6)]) (by decide +kernel) rfl rfl rfl rfl (jk1 kz_14 (jk1 kz_3 (jk1 kz_26 (jk1 kz_3 jk0)))) ?_
  obtain ⟨q4, hq4, h⟩ := jbe h
  refine ev_callV (ci := 3) (a := 14) (y2 := y_Rows_at) (o := 6) (idx := 91) (d2 := d_Rows_at) (n := 2) (mc2 := 0) (ms2 := 0) (As := [.int x4, .int 1]) (st := [.int 9, .int x1, .ref 26]) (res2 := (some (.int q4.1), jR0, q4.2)) (by decide +kernel) rfl lk_6_91 mo_Rows_at mv_Rows_at ⟨Nat.le_of_ble_eq_true rfl, Nat.le_of_ble_eq_true rfl⟩ rfl rfl kz_14 (by decide) rfl (Nat.le_of_ble_eq_true rfl) ⟨Nat.le_refl _, Nat.le_refl _⟩ hG (e_Rows_at hG kz_14 hq4) ?_
  obtain ⟨q5, hq5, h⟩ := jbe h
  refine ev_callV (ci := 3) (a := 26) (y2 := y_Rows_put) (o := 6) (idx := 83) (d2 := d_Rows_put) (n := 3) (mc2 := 0) (ms2 := 0) (As := [.int x1, .int 9, .int q4.1]) (st := []) (res2 := (none, jR0, q5)) (by decide +kernel) rfl lk_6_83 mo_Rows_put mv_Rows_put ⟨Nat.le_of_ble_eq_true rfl, Nat.le_of_ble_eq_true rfl⟩ rfl rfl kz_26 (by decide) rfl (Nat.le_of_ble_eq_true rfl) ⟨Nat.le_refl _, Nat.le_refl _⟩ hG (e_Rows_put hG kz_26 hq5) ?_
  cases h
  exact ev_vret (by decide +kernel) rfl rfl rfl rfl
def f_State_lookAtSeal (x1 : Int32) (x2 : Int32) (x3 : Int32) (w : jW) : Option jW :=
  Option.bind (f_State_latestSeal x2 x3 w) fun q1 =>
  if q1.1 = (-1) then
    f_State_lookAtSeal_j33 x1 q1.1 (-1) q1.2
  else
    Option.bind (f_State_isWhole q1.1 x3 q1.2) fun q2 =>
    if q2.1 = 0 then
      f_State_lookAtSeal_j33 x1 q1.1 0 q2.2
    else
      f_State_lookAtSeal_j33 x1 q1.1 1 q2.2
set_option maxRecDepth 20000 in
theorem e_State_lookAtSeal {l : Launch} {G : jG} (hG : jX G) {x1 : Int32} {x2 : Int32} {x3 : Int32} {w : jW} {z : jW} (h : f_State_lookAtSeal x1 x2 x3 w = some z) : Ct l G y_State_lookAtSeal d_State_lookAtSeal 0 0 [.ref 3, .int x1, .int x2, .int x3] jR0 w (none, jR0, z) := by
  rw [f_State_lookAtSeal] at h
  refine Ct.of (L := [some (.ref 3), some (.int x1), some (.int x2), some (.int x3), none, none]) (by decide) (Nat.le_of_ble_eq_true rfl) rfl ?_
  refine ev_seg (o := 6) (nL := 6) (q := 3) (xs := [(.aload_n 0, 1, 0, 0, .null), (.iload_n 2, 1, 2, 0, .null), (.iload_n 3, 1, 3, 0, .null)]) (L' := [some (.ref 3), some (.int x1), some (.int x2), some (.int x3), none, none]) (st' := [.int x3, .int x2, .ref 3]) (w' := w) (g := []) (K := []) (by decide +kernel) rfl rfl rfl rfl jk0 ?_
  obtain ⟨q1, hq1, h⟩ := jbe h
  refine ev_callV (ci := 6) (a := 3) (y2 := y_State_latestSeal) (o := 6) (idx := 99) (d2 := d_State_latestSeal) (n := 2) (mc2 := 0) (ms2 := 0) (As := [.int x2, .int x3]) (st := []) (res2 := (some (.int q1.1), jR0, q1.2)) (by decide +kernel) rfl lk_6_99 mo_State_latestSeal mv_State_latestSeal ⟨Nat.le_of_ble_eq_true rfl, Nat.le_of_ble_eq_true rfl⟩ rfl rfl kz_3 (by decide) rfl (Nat.le_of_ble_eq_true rfl) ⟨Nat.le_refl _, Nat.le_refl _⟩ hG (e_State_latestSeal hG hq1) ?_
  refine ev_seg (o := 6) (nL := 6) (q := 11) (xs := [(.istore 4, 2, 4, 0, .null), (.iload 4, 2, 4, 0, .null), (.iconst (-1), 1, 0, 0, .int (-1))]) (L' := [some (.ref 3), some (.int x1), some (.int x2), some (.int x3), some (.int q1.1), none]) (st' := [.int (-1), .int q1.1]) (w' := q1.2) (g := []) (K := []) (by decide +kernel) rfl rfl rfl rfl jk0 ?_
  refine ev_icmp_ne (off := 7) (tgt := 18) (by decide +kernel) (by decide) (fun c7 => ?_) (fun c7 => ?_)
  · replace h := jneg c7 h
    refine ev_seg (o := 6) (nL := 6) (q := 22) (xs := [(.aload_n 0, 1, 0, 0, .null), (.iload 4, 2, 4, 0, .null), (.iload_n 3, 1, 3, 0, .null)]) (L' := [some (.ref 3), some (.int x1), some (.int x2), some (.int x3), some (.int q1.1), none]) (st' := [.int x3, .int q1.1, .ref 3]) (w' := q1.2) (g := []) (K := []) (by decide +kernel) rfl rfl rfl rfl jk0 ?_
    obtain ⟨q2, hq2, h⟩ := jbe h
    refine ev_callV (ci := 6) (a := 3) (y2 := y_State_isWhole) (o := 6) (idx := 102) (d2 := d_State_isWhole) (n := 2) (mc2 := 0) (ms2 := 0) (As := [.int q1.1, .int x3]) (st := []) (res2 := (some (.int q2.1), jR0, q2.2)) (by decide +kernel) rfl lk_6_102 mo_State_isWhole mv_State_isWhole ⟨Nat.le_of_ble_eq_true rfl, Nat.le_of_ble_eq_true rfl⟩ rfl rfl kz_3 (by decide) rfl (Nat.le_of_ble_eq_true rfl) ⟨Nat.le_refl _, Nat.le_refl _⟩ hG (e_State_isWhole hG hq2) ?_
    refine ev_if_eq (off := 7) (tgt := 32) (by decide +kernel) (by decide) (fun c6 => ?_) (fun c6 => ?_)
    · replace h := jpos c6 h
      refine ev_seg (o := 6) (nL := 6) (q := 33) (xs := [(.iconst 0, 1, 0, 0, .int 0)]) (L' := [some (.ref 3), some (.int x1), some (.int x2), some (.int x3), some (.int q1.1), none]) (st' := [.int 0]) (w' := q2.2) (g := []) (K := []) (by decide +kernel) rfl rfl rfl rfl jk0 ?_
      refine ev_mask [true, true, false, false, true, false] ?_
      exact t_State_lookAtSeal_j33 hG h
    · replace h := jneg c6 h
      refine ev_seg (o := 6) (nL := 6) (q := 33) (xs := [(.iconst 1, 1, 0, 0, .int 1), (.goto 4, 3, 0, 0, .null)]) (L' := [some (.ref 3), some (.int x1), some (.int x2), some (.int x3), some (.int q1.1), none]) (st' := [.int 1]) (w' := q2.2) (g := []) (K := []) (by decide +kernel) rfl rfl rfl rfl jk0 ?_
      refine ev_mask [true, true, false, false, true, false] ?_
      exact t_State_lookAtSeal_j33 hG h
  · replace h := jpos c7 h
    refine ev_seg (o := 6) (nL := 6) (q := 33) (xs := [(.iconst (-1), 1, 0, 0, .int (-1)), (.goto 18, 3, 0, 0, .null)]) (L' := [some (.ref 3), some (.int x1), some (.int x2), some (.int x3), some (.int q1.1), none]) (st' := [.int (-1)]) (w' := q1.2) (g := []) (K := []) (by decide +kernel) rfl rfl rfl rfl jk0 ?_
    refine ev_mask [true, true, false, false, true, false] ?_
    exact t_State_lookAtSeal_j33 hG h
def f_Count_visit (x1 : Int32) (x2 : Int32) (w : jW) : Option (Int32 × jW) :=
  Option.bind (f_Count_isAbroad x1 x2 w) fun q1 =>
  if q1.1 = 0 then
    some ((-1), q1.2)
  else
    if (q1.2.1 3 0) = 0 then
      some ((-1), q1.2)
    else
      Option.bind (f_Rows_isFull 26 q1.2) fun q2 =>
      if q2.1 = 0 then
        Option.bind (f_Rows_open 26 0 q2.2) fun q3 =>
        Option.bind (f_Rows_put 26 q3.1 6 (q3.2.1 3 0) q3.2) fun q4 =>
        Option.bind (f_Rows_put 26 q3.1 7 x1 q4) fun q5 =>
        Option.bind (f_Rows_put 26 q3.1 8 x2 q5) fun q6 =>
        Option.bind (f_State_lookAround q3.1 x2 (q6.1 3 0) q6) fun q7 =>
        Option.bind (f_State_lookAtSeal q3.1 x2 ((q7.1 3 0) - 1) q7) fun q8 =>
        Option.bind (f_State_addAct 4 x1 x2 q3.1 q8) fun q9 =>
        some (q3.1, q9)
      else
        some ((-1), q2.2)
set_option maxRecDepth 20000 in
theorem e_Count_visit {l : Launch} {G : jG} (hG : jX G) {x1 : Int32} {x2 : Int32} {w : jW} {z : (Int32 × jW)} (h : f_Count_visit x1 x2 w = some z) : Ct l G y_Count_visit d_Count_visit 0 0 [.ref 2, .int x1, .int x2] jR0 w (some (.int z.1), jR0, z.2) := by
  rw [f_Count_visit] at h
  refine Ct.of (L := [some (.ref 2), some (.int x1), some (.int x2), none]) (by decide) (Nat.le_of_ble_eq_true rfl) rfl ?_
  refine ev_seg (o := 9) (nL := 4) (q := 3) (xs := [(.aload_n 0, 1, 0, 0, .null), (.iload_n 1, 1, 1, 0, .null), (.iload_n 2, 1, 2, 0, .null)]) (L' := [some (.ref 2), some (.int x1), some (.int x2), none]) (st' := [.int x2, .int x1, .ref 2]) (w' := w) (g := []) (K := []) (by decide +kernel) rfl rfl rfl rfl jk0 ?_
  obtain ⟨q1, hq1, h⟩ := jbe h
  refine ev_callV (ci := 9) (a := 2) (y2 := y_Count_isAbroad) (o := 9) (idx := 218) (d2 := d_Count_isAbroad) (n := 2) (mc2 := 0) (ms2 := 0) (As := [.int x1, .int x2]) (st := []) (res2 := (some (.int q1.1), jR0, q1.2)) (by decide +kernel) rfl lk_9_218 mo_Count_isAbroad mv_Count_isAbroad ⟨Nat.le_of_ble_eq_true rfl, Nat.le_of_ble_eq_true rfl⟩ rfl rfl kz_2 (by decide) rfl (Nat.le_of_ble_eq_true rfl) ⟨Nat.le_refl _, Nat.le_refl _⟩ hG (e_Count_isAbroad hG hq1) ?_
  refine ev_if_eq (off := 26) (tgt := 32) (by decide +kernel) (by decide) (fun c12 => ?_) (fun c12 => ?_)
  · replace h := jpos c12 h
    refine ev_seg (o := 9) (nL := 4) (q := 33) (xs := [(.iconst (-1), 1, 0, 0, .int (-1))]) (L' := [some (.ref 2), some (.int x1), some (.int x2), none]) (st' := [.int (-1)]) (w' := q1.2) (g := []) (K := []) (by decide +kernel) rfl rfl rfl rfl jk0 ?_
    cases h
    exact ev_iret (by decide +kernel) rfl rfl rfl rfl
  · replace h := jneg c12 h
    refine ev_seg (o := 9) (nL := 4) (q := 16) (xs := [(.aload_n 0, 1, 0, 0, .null), (.getfield 12, 3, 9, 0, .ref 6), (.getfield 119, 3, 6, 0, .int 0)]) (L' := [some (.ref 2), some (.int x1), some (.int x2), none]) (st' := [.int (q1.2.1 3 0)]) (w' := q1.2) (g := []) (K := [(3, 6), (3, 6), (2, 9)]) (by decide +kernel) rfl rfl rfl rfl (jk1 kz_3 (jk1 kz_3 (jk1 kz_2 jk0))) ?_
    refine ev_if_eq (off := 16) (tgt := 32) (by decide +kernel) (by decide) (fun c11 => ?_) (fun c11 => ?_)
    · replace h := jpos c11 h
      refine ev_seg (o := 9) (nL := 4) (q := 33) (xs := [(.iconst (-1), 1, 0, 0, .int (-1))]) (L' := [some (.ref 2), some (.int x1), some (.int x2), none]) (st' := [.int (-1)]) (w' := q1.2) (g := []) (K := []) (by decide +kernel) rfl rfl rfl rfl jk0 ?_
      cases h
      exact ev_iret (by decide +kernel) rfl rfl rfl rfl
    · replace h := jneg c11 h
      refine ev_seg (o := 9) (nL := 4) (q := 26) (xs := [(.aload_n 0, 1, 0, 0, .null), (.getfield 12, 3, 9, 0, .ref 6), (.getfield 221, 3, 6, 13, .ref 3)]) (L' := [some (.ref 2), some (.int x1), some (.int x2), none]) (st' := [.ref 26]) (w' := q1.2) (g := []) (K := [(26, 3), (3, 6), (3, 6), (2, 9)]) (by decide +kernel) rfl rfl rfl rfl (jk1 kz_26 (jk1 kz_3 (jk1 kz_3 (jk1 kz_2 jk0)))) ?_
      obtain ⟨q2, hq2, h⟩ := jbe h
      refine ev_callV (ci := 3) (a := 26) (y2 := y_Rows_isFull) (o := 9) (idx := 62) (d2 := d_Rows_isFull) (n := 0) (mc2 := 0) (ms2 := 0) (As := []) (st := []) (res2 := (some (.int q2.1), jR0, q2.2)) (by decide +kernel) rfl lk_9_62 mo_Rows_isFull mv_Rows_isFull ⟨Nat.le_of_ble_eq_true rfl, Nat.le_of_ble_eq_true rfl⟩ rfl rfl kz_26 (by decide) rfl (Nat.le_of_ble_eq_true rfl) ⟨Nat.le_refl _, Nat.le_refl _⟩ hG (e_Rows_isFull hG kz_26 hq2) ?_
      refine ev_if_eq (off := 5) (tgt := 34) (by decide +kernel) (by decide) (fun c10 => ?_) (fun c10 => ?_)
      · replace h := jpos c10 h
        refine ev_seg (o := 9) (nL := 4) (q := 42) (xs := [(.aload_n 0, 1, 0, 0, .null), (.getfield 12, 3, 9, 0, .ref 6), (.getfield 221, 3, 6, 13, .ref 3), (.iconst 0, 1, 0, 0, .int 0)]) (L' := [some (.ref 2), some (.int x1), some (.int x2), none]) (st' := [.int 0, .ref 26]) (w' := q2.2) (g := []) (K := [(26, 3), (3, 6), (3, 6), (2, 9)]) (by decide +kernel) rfl rfl rfl rfl (jk1 kz_26 (jk1 kz_3 (jk1 kz_3 (jk1 kz_2 jk0)))) ?_
        obtain ⟨q3, hq3, h⟩ := jbe h
        refine ev_callV (ci := 3) (a := 26) (y2 := y_Rows_open) (o := 9) (idx := 68) (d2 := d_Rows_open) (n := 1) (mc2 := 0) (ms2 := 0) (As := [.int 0]) (st := []) (res2 := (some (.int q3.1), jR0, q3.2)) (by decide +kernel) rfl lk_9_68 mo_Rows_open mv_Rows_open ⟨Nat.le_of_ble_eq_true rfl, Nat.le_of_ble_eq_true rfl⟩ rfl rfl kz_26 (by decide) rfl (Nat.le_of_ble_eq_true rfl) ⟨Nat.le_refl _, Nat.le_refl _⟩ hG (e_Rows_open hG kz_26 hq3) ?_
        refine ev_seg (o := 9) (nL := 4) (q := 63) (xs := [(.istore_n 3, 1, 3, 0, .null), (.aload_n 0, 1, 0, 0, .null), (.getfield 12, 3, 9, 0, .ref 6), (.getfield 221, 3, 6, 13, .ref 3), (.iload_n 3, 1, 3, 0, .null), (.bipush 6, 2, 0, 0, .int 6), (.aload_n 0, 1, 0, 0, .null), (.getfield 12, 3, 9, 0, .ref 6), (.getfield 119, 3, 6, 0, .int 0)]) (L' := [some (.ref 2), some (.int x1), some (.int x2), some (.int q3.1)]) (st' := [.int (q3.2.1 3 0), .int 6, .int q3.1, .ref 26]) (w' := q3.2) (g := []) (K := [(3, 6), (3, 6), (2, 9), (26, 3), (3, 6), (3, 6), (2, 9)]) (by decide +kernel) rfl rfl rfl rfl (jk1 kz_3 (jk1 kz_3 (jk1 kz_2 (jk1 kz_26 (jk1 kz_3 (jk1 kz_3 (jk1 kz_2 jk0))))))) ?_
        obtain ⟨q4, hq4, h⟩ := jbe h
        refine ev_callV (ci := 3) (a := 26) (y2 := y_Rows_put) (o := 9) (idx := 72) (d2 := d_Rows_put) (n := 3) (mc2 := 0) (ms2 := 0) (As := [.int q3.1, .int 6, .int (q3.2.1 3 0)]) (st := []) (res2 := (none, jR0, q4)) (by decide +kernel) rfl lk_9_72 mo_Rows_put mv_Rows_put ⟨Nat.le_of_ble_eq_true rfl, Nat.le_of_ble_eq_true rfl⟩ rfl rfl kz_26 (by decide) rfl (Nat.le_of_ble_eq_true rfl) ⟨Nat.le_refl _, Nat.le_refl _⟩ hG (e_Rows_put hG kz_26 hq4) ?_
        refine ev_seg (o := 9) (nL := 4) (q := 77) (xs := [(.aload_n 0, 1, 0, 0, .null), (.getfield 12, 3, 9, 0, .ref 6), (.getfield 221, 3, 6, 13, .ref 3), (.iload_n 3, 1, 3, 0, .null), (.bipush 7, 2, 0, 0, .int 7), (.iload_n 1, 1, 1, 0, .null)]) (L' := [some (.ref 2), some (.int x1), some (.int x2), some (.int q3.1)]) (st' := [.int x1, .int 7, .int q3.1, .ref 26]) (w' := q4) (g := []) (K := [(26, 3), (3, 6), (3, 6), (2, 9)]) (by decide +kernel) rfl rfl rfl rfl (jk1 kz_26 (jk1 kz_3 (jk1 kz_3 (jk1 kz_2 jk0)))) ?_
        obtain ⟨q5, hq5, h⟩ := jbe h
        refine ev_callV (ci := 3) (a := 26) (y2 := y_Rows_put) (o := 9) (idx := 72) (d2 := d_Rows_put) (n := 3) (mc2 := 0) (ms2 := 0) (As := [.int q3.1, .int 7, .int x1]) (st := []) (res2 := (none, jR0, q5)) (by decide +kernel) rfl lk_9_72 mo_Rows_put mv_Rows_put ⟨Nat.le_of_ble_eq_true rfl, Nat.le_of_ble_eq_true rfl⟩ rfl rfl kz_26 (by decide) rfl (Nat.le_of_ble_eq_true rfl) ⟨Nat.le_refl _, Nat.le_refl _⟩ hG (e_Rows_put hG kz_26 hq5) ?_
        refine ev_seg (o := 9) (nL := 4) (q := 91) (xs := [(.aload_n 0, 1, 0, 0, .null), (.getfield 12, 3, 9, 0, .ref 6), (.getfield 221, 3, 6, 13, .ref 3), (.iload_n 3, 1, 3, 0, .null), (.bipush 8, 2, 0, 0, .int 8), (.iload_n 2, 1, 2, 0, .null)]) (L' := [some (.ref 2), some (.int x1), some (.int x2), some (.int q3.1)]) (st' := [.int x2, .int 8, .int q3.1, .ref 26]) (w' := q5) (g := []) (K := [(26, 3), (3, 6), (3, 6), (2, 9)]) (by decide +kernel) rfl rfl rfl rfl (jk1 kz_26 (jk1 kz_3 (jk1 kz_3 (jk1 kz_2 jk0)))) ?_
        obtain ⟨q6, hq6, h⟩ := jbe h
        refine ev_callV (ci := 3) (a := 26) (y2 := y_Rows_put) (o := 9) (idx := 72) (d2 := d_Rows_put) (n := 3) (mc2 := 0) (ms2 := 0) (As := [.int q3.1, .int 8, .int x2]) (st := []) (res2 := (none, jR0, q6)) (by decide +kernel) rfl lk_9_72 mo_Rows_put mv_Rows_put ⟨Nat.le_of_ble_eq_true rfl, Nat.le_of_ble_eq_true rfl⟩ rfl rfl kz_26 (by decide) rfl (Nat.le_of_ble_eq_true rfl) ⟨Nat.le_refl _, Nat.le_refl _⟩ hG (e_Rows_put hG kz_26 hq6) ?_
        refine ev_seg (o := 9) (nL := 4) (q := 107) (xs := [(.aload_n 0, 1, 0, 0, .null), (.getfield 12, 3, 9, 0, .ref 6), (.iload_n 3, 1, 3, 0, .null), (.iload_n 2, 1, 2, 0, .null), (.aload_n 0, 1, 0, 0, .null), (.getfield 12, 3, 9, 0, .ref 6), (.getfield 119, 3, 6, 0, .int 0)]) (L' := [some (.ref 2), some (.int x1), some (.int x2), some (.int q3.1)]) (st' := [.int (q6.1 3 0), .int x2, .int q3.1, .ref 3]) (w' := q6) (g := []) (K := [(3, 6), (3, 6), (2, 9), (3, 6), (2, 9)]) (by decide +kernel) rfl rfl rfl rfl (jk1 kz_3 (jk1 kz_3 (jk1 kz_2 (jk1 kz_3 (jk1 kz_2 jk0))))) ?_
        obtain ⟨q7, hq7, h⟩ := jbe h
        refine ev_callV (ci := 6) (a := 3) (y2 := y_State_lookAround) (o := 9) (idx := 224) (d2 := d_State_lookAround) (n := 3) (mc2 := 0) (ms2 := 0) (As := [.int q3.1, .int x2, .int (q6.1 3 0)]) (st := []) (res2 := (none, jR0, q7)) (by decide +kernel) rfl lk_9_224 mo_State_lookAround mv_State_lookAround ⟨Nat.le_of_ble_eq_true rfl, Nat.le_of_ble_eq_true rfl⟩ rfl rfl kz_3 (by decide) rfl (Nat.le_of_ble_eq_true rfl) ⟨Nat.le_refl _, Nat.le_refl _⟩ hG (e_State_lookAround hG hq7) ?_
        refine ev_seg (o := 9) (nL := 4) (q := 125) (xs := [(.aload_n 0, 1, 0, 0, .null), (.getfield 12, 3, 9, 0, .ref 6), (.iload_n 3, 1, 3, 0, .null), (.iload_n 2, 1, 2, 0, .null), (.aload_n 0, 1, 0, 0, .null), (.getfield 12, 3, 9, 0, .ref 6), (.getfield 119, 3, 6, 0, .int 0), (.iconst 1, 1, 0, 0, .int 1), (.isub, 1, 0, 0, .null)]) (L' := [some (.ref 2), some (.int x1), some (.int x2), some (.int q3.1)]) (st' := [.int ((q7.1 3 0) - 1), .int x2, .int q3.1, .ref 3]) (w' := q7) (g := []) (K := [(3, 6), (3, 6), (2, 9), (3, 6), (2, 9)]) (by decide +kernel) rfl rfl rfl rfl (jk1 kz_3 (jk1 kz_3 (jk1 kz_2 (jk1 kz_3 (jk1 kz_2 jk0))))) ?_
        obtain ⟨q8, hq8, h⟩ := jbe h
        refine ev_callV (ci := 6) (a := 3) (y2 := y_State_lookAtSeal) (o := 9) (idx := 227) (d2 := d_State_lookAtSeal) (n := 3) (mc2 := 0) (ms2 := 0) (As := [.int q3.1, .int x2, .int ((q7.1 3 0) - 1)]) (st := []) (res2 := (none, jR0, q8)) (by decide +kernel) rfl lk_9_227 mo_State_lookAtSeal mv_State_lookAtSeal ⟨Nat.le_of_ble_eq_true rfl, Nat.le_of_ble_eq_true rfl⟩ rfl rfl kz_3 (by decide) rfl (Nat.le_of_ble_eq_true rfl) ⟨Nat.le_refl _, Nat.le_refl _⟩ hG (e_State_lookAtSeal hG hq8) ?_
        refine ev_seg (o := 9) (nL := 4) (q := 136) (xs := [(.aload_n 0, 1, 0, 0, .null), (.getfield 12, 3, 9, 0, .ref 6), (.iconst 4, 1, 0, 0, .int 4), (.iload_n 1, 1, 1, 0, .null), (.iload_n 2, 1, 2, 0, .null), (.iload_n 3, 1, 3, 0, .null)]) (L' := [some (.ref 2), some (.int x1), some (.int x2), some (.int q3.1)]) (st' := [.int q3.1, .int x2, .int x1, .int 4, .ref 3]) (w' := q8) (g := []) (K := [(3, 6), (2, 9)]) (by decide +kernel) rfl rfl rfl rfl (jk1 kz_3 (jk1 kz_2 jk0)) ?_
        obtain ⟨q9, hq9, h⟩ := jbe h
        refine ev_callV (ci := 6) (a := 3) (y2 := y_State_addAct) (o := 9) (idx := 122) (d2 := d_State_addAct) (n := 4) (mc2 := 0) (ms2 := 0) (As := [.int 4, .int x1, .int x2, .int q3.1]) (st := []) (res2 := (none, jR0, q9)) (by decide +kernel) rfl lk_9_122 mo_State_addAct mv_State_addAct ⟨Nat.le_of_ble_eq_true rfl, Nat.le_of_ble_eq_true rfl⟩ rfl rfl kz_3 (by decide) rfl (Nat.le_of_ble_eq_true rfl) ⟨Nat.le_refl _, Nat.le_refl _⟩ hG (e_State_addAct hG hq9) ?_
        refine ev_seg (o := 9) (nL := 4) (q := 140) (xs := [(.iload_n 3, 1, 3, 0, .null)]) (L' := [some (.ref 2), some (.int x1), some (.int x2), some (.int q3.1)]) (st' := [.int q3.1]) (w' := q9) (g := []) (K := []) (by decide +kernel) rfl rfl rfl rfl jk0 ?_
        cases h
        exact ev_iret (by decide +kernel) rfl rfl rfl rfl
      · replace h := jneg c10 h
        refine ev_seg (o := 9) (nL := 4) (q := 33) (xs := [(.iconst (-1), 1, 0, 0, .int (-1))]) (L' := [some (.ref 2), some (.int x1), some (.int x2), none]) (st' := [.int (-1)]) (w' := q2.2) (g := []) (K := []) (by decide +kernel) rfl rfl rfl rfl jk0 ?_
        cases h
        exact ev_iret (by decide +kernel) rfl rfl rfl rfl
def f_Count_saw (x1 : Int32) (x2 : Int32) (w : jW) : Option (Int32 × jW) :=
  if x2 ≤ 6 then
    Option.bind (f_Rows_at 26 x1 x2 w) fun q1 =>
    some (q1.1, q1.2)
  else
    some ((-1), w)
set_option maxRecDepth 20000 in
theorem e_Count_saw {l : Launch} {G : jG} (hG : jX G) {x1 : Int32} {x2 : Int32} {w : jW} {z : (Int32 × jW)} (h : f_Count_saw x1 x2 w = some z) : Ct l G y_Count_saw d_Count_saw 0 0 [.ref 2, .int x1, .int x2] jR0 w (some (.int z.1), jR0, z.2) := by
  rw [f_Count_saw] at h
  refine Ct.of (L := [some (.ref 2), some (.int x1), some (.int x2)]) (by decide) (Nat.le_of_ble_eq_true rfl) rfl ?_
  refine ev_seg (o := 9) (nL := 3) (q := 3) (xs := [(.iload_n 2, 1, 2, 0, .null), (.bipush 6, 2, 0, 0, .int 6)]) (L' := [some (.ref 2), some (.int x1), some (.int x2)]) (st' := [.int 6, .int x2]) (w' := w) (g := []) (K := []) (by decide +kernel) rfl rfl rfl rfl jk0 ?_
  refine ev_icmp_le (off := 7) (tgt := 10) (by decide +kernel) (by decide) (fun c2 => ?_) (fun c2 => ?_)
  · replace h := jpos c2 h
    refine ev_seg (o := 9) (nL := 3) (q := 19) (xs := [(.aload_n 0, 1, 0, 0, .null), (.getfield 12, 3, 9, 0, .ref 6), (.getfield 221, 3, 6, 13, .ref 3), (.iload_n 1, 1, 1, 0, .null), (.iload_n 2, 1, 2, 0, .null)]) (L' := [some (.ref 2), some (.int x1), some (.int x2)]) (st' := [.int x2, .int x1, .ref 26]) (w' := w) (g := []) (K := [(26, 3), (3, 6), (3, 6), (2, 9)]) (by decide +kernel) rfl rfl rfl rfl (jk1 kz_26 (jk1 kz_3 (jk1 kz_3 (jk1 kz_2 jk0)))) ?_
    obtain ⟨q1, hq1, h⟩ := jbe h
    refine ev_callV (ci := 3) (a := 26) (y2 := y_Rows_at) (o := 9) (idx := 83) (d2 := d_Rows_at) (n := 2) (mc2 := 0) (ms2 := 0) (As := [.int x1, .int x2]) (st := []) (res2 := (some (.int q1.1), jR0, q1.2)) (by decide +kernel) rfl lk_9_83 mo_Rows_at mv_Rows_at ⟨Nat.le_of_ble_eq_true rfl, Nat.le_of_ble_eq_true rfl⟩ rfl rfl kz_26 (by decide) rfl (Nat.le_of_ble_eq_true rfl) ⟨Nat.le_refl _, Nat.le_refl _⟩ hG (e_Rows_at hG kz_26 hq1) ?_
    cases h
    exact ev_iret (by decide +kernel) rfl rfl rfl rfl
  · replace h := jneg c2 h
    refine ev_seg (o := 9) (nL := 3) (q := 22) (xs := [(.iconst (-1), 1, 0, 0, .int (-1)), (.goto 15, 3, 0, 0, .null)]) (L' := [some (.ref 2), some (.int x1), some (.int x2)]) (st' := [.int (-1)]) (w' := w) (g := []) (K := []) (by decide +kernel) rfl rfl rfl rfl jk0 ?_
    cases h
    exact ev_iret (by decide +kernel) rfl rfl rfl rfl
def f_State_hasSpot_h2 (a0 : Nat) : Nat → Int32 → Int32 → Int32 → jW → Option (Int32 × jW)
  | 0, _, _, _, _ => none
  | n + 1, x1, x2, x3, w =>
  Option.bind (f_Rows_count a0 w) fun q1 =>
  if x3 < q1.1 then
    Option.bind (f_Rows_at a0 x3 0 q1.2) fun q2 =>
    if q2.1 = x1 then
      Option.bind (f_Rows_at a0 x3 1 q2.2) fun q3 =>
      if q3.1 = x2 then
        some (1, q3.2)
      else
        (f_State_hasSpot_h2 a0 n) x1 x2 (x3 + 1) q3.2
    else
      (f_State_hasSpot_h2 a0 n) x1 x2 (x3 + 1) q2.2
  else
    some (0, q1.2)
set_option maxRecDepth 20000 in
theorem t_State_hasSpot_h2 {l : Launch} {G : jG} (hG : jX G) {a0 : Nat} (h_a0 : jSk jR0 a0 = 3) : ∀ (n : Nat) (x1 : Int32) (x2 : Int32) (x3 : Int32) (w : jW) (z : (Int32 × jW)), f_State_hasSpot_h2 a0 n x1 x2 x3 w = some z → Ev l G (jrm d_State_hasSpot 0 0) y_State_hasSpot (some (.int z.1), jR0, z.2) 0 0 0 0 2 [some (.ref a0), some (.int x1), some (.int x2), some (.int x3)] [] jR0 w := by
  intro n
  induction n with
  | zero => intro x1 x2 x3 w z h; simp only [f_State_hasSpot_h2] at h; cases h
  | succ n ih =>
    intro x1 x2 x3 w z h
    rw [f_State_hasSpot_h2] at h
    refine ev_seg (o := 6) (nL := 4) (q := 4) (xs := [(.iload_n 3, 1, 3, 0, .null), (.aload_n 0, 1, 0, 0, .null)]) (L' := [some (.ref a0), some (.int x1), some (.int x2), some (.int x3)]) (st' := [.ref a0, .int x3]) (w' := w) (g := []) (K := []) (by decide +kernel) rfl rfl rfl rfl jk0 ?_
    obtain ⟨q1, hq1, h⟩ := jbe h
    refine ev_callV (ci := 3) (a := a0) (y2 := y_Rows_count) (o := 6) (idx := 87) (d2 := d_Rows_count) (n := 0) (mc2 := 0) (ms2 := 0) (As := []) (st := [.int x3]) (res2 := (some (.int q1.1), jR0, q1.2)) (by decide +kernel) rfl lk_6_87 mo_Rows_count mv_Rows_count ⟨Nat.le_of_ble_eq_true rfl, Nat.le_of_ble_eq_true rfl⟩ rfl rfl h_a0 (by decide) rfl (Nat.le_of_ble_eq_true rfl) ⟨Nat.le_refl _, Nat.le_refl _⟩ hG (e_Rows_count hG h_a0 hq1) ?_
    refine ev_icmp_ge (off := 31) (tgt := 38) (by decide +kernel) (by decide) (fun c6 => ?_) (fun c6 => ?_)
    · replace h := jneg c6 h
      refine ev_seg (o := 6) (nL := 4) (q := 39) (xs := [(.iconst 0, 1, 0, 0, .int 0)]) (L' := [some (.ref a0), some (.int x1), some (.int x2), some (.int x3)]) (st' := [.int 0]) (w' := q1.2) (g := []) (K := []) (by decide +kernel) rfl rfl rfl rfl jk0 ?_
      cases h
      exact ev_zret (by decide +kernel) rfl rfl rfl rfl rfl
    · replace h := jpos c6 h
      refine ev_seg (o := 6) (nL := 4) (q := 13) (xs := [(.aload_n 0, 1, 0, 0, .null), (.iload_n 3, 1, 3, 0, .null), (.iconst 0, 1, 0, 0, .int 0)]) (L' := [some (.ref a0), some (.int x1), some (.int x2), some (.int x3)]) (st' := [.int 0, .int x3, .ref a0]) (w' := q1.2) (g := []) (K := []) (by decide +kernel) rfl rfl rfl rfl jk0 ?_
      obtain ⟨q2, hq2, h⟩ := jbe h
      refine ev_callV (ci := 3) (a := a0) (y2 := y_Rows_at) (o := 6) (idx := 91) (d2 := d_Rows_at) (n := 2) (mc2 := 0) (ms2 := 0) (As := [.int x3, .int 0]) (st := []) (res2 := (some (.int q2.1), jR0, q2.2)) (by decide +kernel) rfl lk_6_91 mo_Rows_at mv_Rows_at ⟨Nat.le_of_ble_eq_true rfl, Nat.le_of_ble_eq_true rfl⟩ rfl rfl h_a0 (by decide) rfl (Nat.le_of_ble_eq_true rfl) ⟨Nat.le_refl _, Nat.le_refl _⟩ hG (e_Rows_at hG h_a0 hq2) ?_
      refine ev_seg (o := 6) (nL := 4) (q := 17) (xs := [(.iload_n 1, 1, 1, 0, .null)]) (L' := [some (.ref a0), some (.int x1), some (.int x2), some (.int x3)]) (st' := [.int x1, .int q2.1]) (w' := q2.2) (g := []) (K := []) (by decide +kernel) rfl rfl rfl rfl jk0 ?_
      refine ev_icmp_ne (off := 15) (tgt := 32) (by decide +kernel) (by decide) (fun c5 => ?_) (fun c5 => ?_)
      · replace h := jneg c5 h
        refine ev_seg (o := 6) (nL := 4) (q := 2) (xs := [(.iinc 3 1, 3, 3, 0, .int 1), (.goto (-33), 3, 0, 0, .null)]) (L' := [some (.ref a0), some (.int x1), some (.int x2), some (.int (x3 + 1))]) (st' := []) (w' := q2.2) (g := []) (K := []) (by decide +kernel) rfl rfl rfl rfl jk0 ?_
        refine ev_mask [true, true, true, true] ?_
        exact ih _ _ _ _ _ h
      · replace h := jpos c5 h
        refine ev_seg (o := 6) (nL := 4) (q := 23) (xs := [(.aload_n 0, 1, 0, 0, .null), (.iload_n 3, 1, 3, 0, .null), (.iconst 1, 1, 0, 0, .int 1)]) (L' := [some (.ref a0), some (.int x1), some (.int x2), some (.int x3)]) (st' := [.int 1, .int x3, .ref a0]) (w' := q2.2) (g := []) (K := []) (by decide +kernel) rfl rfl rfl rfl jk0 ?_
        obtain ⟨q3, hq3, h⟩ := jbe h
        refine ev_callV (ci := 3) (a := a0) (y2 := y_Rows_at) (o := 6) (idx := 91) (d2 := d_Rows_at) (n := 2) (mc2 := 0) (ms2 := 0) (As := [.int x3, .int 1]) (st := []) (res2 := (some (.int q3.1), jR0, q3.2)) (by decide +kernel) rfl lk_6_91 mo_Rows_at mv_Rows_at ⟨Nat.le_of_ble_eq_true rfl, Nat.le_of_ble_eq_true rfl⟩ rfl rfl h_a0 (by decide) rfl (Nat.le_of_ble_eq_true rfl) ⟨Nat.le_refl _, Nat.le_refl _⟩ hG (e_Rows_at hG h_a0 hq3) ?_
        refine ev_seg (o := 6) (nL := 4) (q := 27) (xs := [(.iload_n 2, 1, 2, 0, .null)]) (L' := [some (.ref a0), some (.int x1), some (.int x2), some (.int x3)]) (st' := [.int x2, .int q3.1]) (w' := q3.2) (g := []) (K := []) (by decide +kernel) rfl rfl rfl rfl jk0 ?_
        refine ev_icmp_ne (off := 5) (tgt := 32) (by decide +kernel) (by decide) (fun c4 => ?_) (fun c4 => ?_)
        · replace h := jneg c4 h
          refine ev_seg (o := 6) (nL := 4) (q := 2) (xs := [(.iinc 3 1, 3, 3, 0, .int 1), (.goto (-33), 3, 0, 0, .null)]) (L' := [some (.ref a0), some (.int x1), some (.int x2), some (.int (x3 + 1))]) (st' := []) (w' := q3.2) (g := []) (K := []) (by decide +kernel) rfl rfl rfl rfl jk0 ?_
          refine ev_mask [true, true, true, true] ?_
          exact ih _ _ _ _ _ h
        · replace h := jpos c4 h
          refine ev_seg (o := 6) (nL := 4) (q := 31) (xs := [(.iconst 1, 1, 0, 0, .int 1)]) (L' := [some (.ref a0), some (.int x1), some (.int x2), some (.int x3)]) (st' := [.int 1]) (w' := q3.2) (g := []) (K := []) (by decide +kernel) rfl rfl rfl rfl jk0 ?_
          cases h
          exact ev_zret (by decide +kernel) rfl rfl rfl rfl rfl
def f_State_hasSpot (a0 : Nat) (x1 : Int32) (x2 : Int32) (w : jW) : Option (Int32 × jW) :=
  f_State_hasSpot_h2 a0 jfu x1 x2 0 w
set_option maxRecDepth 20000 in
theorem e_State_hasSpot {l : Launch} {G : jG} (hG : jX G) {a0 : Nat} {x1 : Int32} {x2 : Int32} (h_a0 : jSk jR0 a0 = 3) {w : jW} {z : (Int32 × jW)} (h : f_State_hasSpot a0 x1 x2 w = some z) : Ct l G y_State_hasSpot d_State_hasSpot 0 0 [.ref a0, .int x1, .int x2] jR0 w (some (.int z.1), jR0, z.2) := by
  rw [f_State_hasSpot] at h
  refine Ct.of (L := [some (.ref a0), some (.int x1), some (.int x2), none]) (by decide) (Nat.le_of_ble_eq_true rfl) rfl ?_
  refine ev_seg (o := 6) (nL := 4) (q := 2) (xs := [(.iconst 0, 1, 0, 0, .int 0), (.istore_n 3, 1, 3, 0, .null)]) (L' := [some (.ref a0), some (.int x1), some (.int x2), some (.int 0)]) (st' := []) (w' := w) (g := []) (K := []) (by decide +kernel) rfl rfl rfl rfl jk0 ?_
  refine ev_mask [true, true, true, true] ?_
  exact t_State_hasSpot_h2 hG h_a0 jfu _ _ _ _ _ h
def f_Count_cloud (x1 : Int32) (x2 : Int32) (w : jW) : Option (Int32 × jW) :=
  Option.bind (f_Rows_has 6 x1 w) fun q1 =>
  if q1.1 = 0 then
    some ((-1), q1.2)
  else
    Option.bind (f_State_isDay x2 q1.2) fun q2 =>
    if q2.1 = 0 then
      some ((-1), q2.2)
    else
      Option.bind (f_Rows_isFull 34 q2.2) fun q3 =>
      if q3.1 = 0 then
        Option.bind (f_State_hasSpot 34 x1 x2 q3.2) fun q4 =>
        if q4.1 = 0 then
          Option.bind (f_State_addSpot 34 x1 x2 q4.2) fun q5 =>
          some ((q5.1 + 1), q5.2)
        else
          some ((-1), q4.2)
      else
        some ((-1), q3.2)
set_option maxRecDepth 20000 in
theorem e_Count_cloud {l : Launch} {G : jG} (hG : jX G) {x1 : Int32} {x2 : Int32} {w : jW} {z : (Int32 × jW)} (h : f_Count_cloud x1 x2 w = some z) : Ct l G y_Count_cloud d_Count_cloud 0 0 [.ref 2, .int x1, .int x2] jR0 w (some (.int z.1), jR0, z.2) := by
  rw [f_Count_cloud] at h
  refine Ct.of (L := [some (.ref 2), some (.int x1), some (.int x2)]) (by decide) (Nat.le_of_ble_eq_true rfl) rfl ?_
  refine ev_seg (o := 9) (nL := 3) (q := 8) (xs := [(.aload_n 0, 1, 0, 0, .null), (.getfield 12, 3, 9, 0, .ref 6), (.getfield 58, 3, 6, 6, .ref 3), (.iload_n 1, 1, 1, 0, .null)]) (L' := [some (.ref 2), some (.int x1), some (.int x2)]) (st' := [.int x1, .ref 6]) (w' := w) (g := []) (K := [(6, 3), (3, 6), (3, 6), (2, 9)]) (by decide +kernel) rfl rfl rfl rfl (jk1 kz_6 (jk1 kz_3 (jk1 kz_3 (jk1 kz_2 jk0)))) ?_
  obtain ⟨q1, hq1, h⟩ := jbe h
  refine ev_callV (ci := 3) (a := 6) (y2 := y_Rows_has) (o := 9) (idx := 80) (d2 := d_Rows_has) (n := 1) (mc2 := 0) (ms2 := 0) (As := [.int x1]) (st := []) (res2 := (some (.int q1.1), jR0, q1.2)) (by decide +kernel) rfl lk_9_80 mo_Rows_has mv_Rows_has ⟨Nat.le_of_ble_eq_true rfl, Nat.le_of_ble_eq_true rfl⟩ rfl rfl kz_6 (by decide) rfl (Nat.le_of_ble_eq_true rfl) ⟨Nat.le_refl _, Nat.le_refl _⟩ hG (e_Rows_has hG kz_6 hq1) ?_
  refine ev_if_eq (off := 23) (tgt := 34) (by decide +kernel) (by decide) (fun c9 => ?_) (fun c9 => ?_)
  · replace h := jpos c9 h
    refine ev_seg (o := 9) (nL := 3) (q := 35) (xs := [(.iconst (-1), 1, 0, 0, .int (-1))]) (L' := [some (.ref 2), some (.int x1), some (.int x2)]) (st' := [.int (-1)]) (w' := q1.2) (g := []) (K := []) (by decide +kernel) rfl rfl rfl rfl jk0 ?_
    cases h
    exact ev_iret (by decide +kernel) rfl rfl rfl rfl
  · replace h := jneg c9 h
    refine ev_seg (o := 9) (nL := 3) (q := 15) (xs := [(.iload_n 2, 1, 2, 0, .null)]) (L' := [some (.ref 2), some (.int x1), some (.int x2)]) (st' := [.int x2]) (w' := q1.2) (g := []) (K := []) (by decide +kernel) rfl rfl rfl rfl jk0 ?_
    obtain ⟨q2, hq2, h⟩ := jbe h
    refine ev_callS (y2 := y_State_isDay) (o := 9) (idx := 151) (d2 := d_State_isDay) (n := 1) (mc2 := 0) (ms2 := 0) (As := [.int x2]) (st := []) (res2 := (some (.int q2.1), jR0, q2.2)) (by decide +kernel) rfl lk_9_151 mo_State_isDay ms_State_isDay ⟨Nat.le_of_ble_eq_true rfl, Nat.le_of_ble_eq_true rfl⟩ rfl rfl (Nat.le_of_ble_eq_true rfl) ⟨Nat.le_refl _, Nat.le_refl _⟩ hG (e_State_isDay hG hq2) ?_
    refine ev_if_eq (off := 16) (tgt := 34) (by decide +kernel) (by decide) (fun c8 => ?_) (fun c8 => ?_)
    · replace h := jpos c8 h
      refine ev_seg (o := 9) (nL := 3) (q := 35) (xs := [(.iconst (-1), 1, 0, 0, .int (-1))]) (L' := [some (.ref 2), some (.int x1), some (.int x2)]) (st' := [.int (-1)]) (w' := q2.2) (g := []) (K := []) (by decide +kernel) rfl rfl rfl rfl jk0 ?_
      cases h
      exact ev_iret (by decide +kernel) rfl rfl rfl rfl
    · replace h := jneg c8 h
      refine ev_seg (o := 9) (nL := 3) (q := 28) (xs := [(.aload_n 0, 1, 0, 0, .null), (.getfield 12, 3, 9, 0, .ref 6), (.getfield 230, 3, 6, 17, .ref 3)]) (L' := [some (.ref 2), some (.int x1), some (.int x2)]) (st' := [.ref 34]) (w' := q2.2) (g := []) (K := [(34, 3), (3, 6), (3, 6), (2, 9)]) (by decide +kernel) rfl rfl rfl rfl (jk1 kz_34 (jk1 kz_3 (jk1 kz_3 (jk1 kz_2 jk0)))) ?_
      obtain ⟨q3, hq3, h⟩ := jbe h
      refine ev_callV (ci := 3) (a := 34) (y2 := y_Rows_isFull) (o := 9) (idx := 62) (d2 := d_Rows_isFull) (n := 0) (mc2 := 0) (ms2 := 0) (As := []) (st := []) (res2 := (some (.int q3.1), jR0, q3.2)) (by decide +kernel) rfl lk_9_62 mo_Rows_isFull mv_Rows_isFull ⟨Nat.le_of_ble_eq_true rfl, Nat.le_of_ble_eq_true rfl⟩ rfl rfl kz_34 (by decide) rfl (Nat.le_of_ble_eq_true rfl) ⟨Nat.le_refl _, Nat.le_refl _⟩ hG (e_Rows_isFull hG kz_34 hq3) ?_
      refine ev_if_eq (off := 5) (tgt := 36) (by decide +kernel) (by decide) (fun c7 => ?_) (fun c7 => ?_)
      · replace h := jpos c7 h
        refine ev_seg (o := 9) (nL := 3) (q := 45) (xs := [(.aload_n 0, 1, 0, 0, .null), (.getfield 12, 3, 9, 0, .ref 6), (.getfield 230, 3, 6, 17, .ref 3), (.iload_n 1, 1, 1, 0, .null), (.iload_n 2, 1, 2, 0, .null)]) (L' := [some (.ref 2), some (.int x1), some (.int x2)]) (st' := [.int x2, .int x1, .ref 34]) (w' := q3.2) (g := []) (K := [(34, 3), (3, 6), (3, 6), (2, 9)]) (by decide +kernel) rfl rfl rfl rfl (jk1 kz_34 (jk1 kz_3 (jk1 kz_3 (jk1 kz_2 jk0)))) ?_
        obtain ⟨q4, hq4, h⟩ := jbe h
        refine ev_callS (y2 := y_State_hasSpot) (o := 9) (idx := 233) (d2 := d_State_hasSpot) (n := 3) (mc2 := 0) (ms2 := 0) (As := [.ref 34, .int x1, .int x2]) (st := []) (res2 := (some (.int q4.1), jR0, q4.2)) (by decide +kernel) rfl lk_9_233 mo_State_hasSpot ms_State_hasSpot ⟨Nat.le_of_ble_eq_true rfl, Nat.le_of_ble_eq_true rfl⟩ rfl rfl (Nat.le_of_ble_eq_true rfl) ⟨Nat.le_refl _, Nat.le_refl _⟩ hG (e_State_hasSpot hG kz_34 hq4) ?_
        refine ev_if_eq (off := 5) (tgt := 53) (by decide +kernel) (by decide) (fun c6 => ?_) (fun c6 => ?_)
        · replace h := jpos c6 h
          refine ev_seg (o := 9) (nL := 3) (q := 62) (xs := [(.aload_n 0, 1, 0, 0, .null), (.getfield 12, 3, 9, 0, .ref 6), (.getfield 230, 3, 6, 17, .ref 3), (.iload_n 1, 1, 1, 0, .null), (.iload_n 2, 1, 2, 0, .null)]) (L' := [some (.ref 2), some (.int x1), some (.int x2)]) (st' := [.int x2, .int x1, .ref 34]) (w' := q4.2) (g := []) (K := [(34, 3), (3, 6), (3, 6), (2, 9)]) (by decide +kernel) rfl rfl rfl rfl (jk1 kz_34 (jk1 kz_3 (jk1 kz_3 (jk1 kz_2 jk0)))) ?_
          obtain ⟨q5, hq5, h⟩ := jbe h
          refine ev_callS (y2 := y_State_addSpot) (o := 9) (idx := 147) (d2 := d_State_addSpot) (n := 3) (mc2 := 0) (ms2 := 0) (As := [.ref 34, .int x1, .int x2]) (st := []) (res2 := (some (.int q5.1), jR0, q5.2)) (by decide +kernel) rfl lk_9_147 mo_State_addSpot ms_State_addSpot ⟨Nat.le_of_ble_eq_true rfl, Nat.le_of_ble_eq_true rfl⟩ rfl rfl (Nat.le_of_ble_eq_true rfl) ⟨Nat.le_refl _, Nat.le_refl _⟩ hG (e_State_addSpot hG kz_34 hq5) ?_
          refine ev_seg (o := 9) (nL := 3) (q := 67) (xs := [(.iconst 1, 1, 0, 0, .int 1), (.iadd, 1, 0, 0, .null)]) (L' := [some (.ref 2), some (.int x1), some (.int x2)]) (st' := [.int (q5.1 + 1)]) (w' := q5.2) (g := []) (K := []) (by decide +kernel) rfl rfl rfl rfl jk0 ?_
          cases h
          exact ev_iret (by decide +kernel) rfl rfl rfl rfl
        · replace h := jneg c6 h
          refine ev_seg (o := 9) (nL := 3) (q := 52) (xs := [(.iconst (-1), 1, 0, 0, .int (-1))]) (L' := [some (.ref 2), some (.int x1), some (.int x2)]) (st' := [.int (-1)]) (w' := q4.2) (g := []) (K := []) (by decide +kernel) rfl rfl rfl rfl jk0 ?_
          cases h
          exact ev_iret (by decide +kernel) rfl rfl rfl rfl
      · replace h := jneg c7 h
        refine ev_seg (o := 9) (nL := 3) (q := 35) (xs := [(.iconst (-1), 1, 0, 0, .int (-1))]) (L' := [some (.ref 2), some (.int x1), some (.int x2)]) (st' := [.int (-1)]) (w' := q3.2) (g := []) (K := []) (by decide +kernel) rfl rfl rfl rfl jk0 ?_
        cases h
        exact ev_iret (by decide +kernel) rfl rfl rfl rfl
def f_State_numberLarge_h5 : Nat → Int32 → Int32 → Int32 → Int32 → jW → Option (Int32 × jW)
  | 0, _, _, _, _, _ => none
  | n + 1, x1, x2, x3, x4, w =>
  Option.bind (f_Rows_count 10 w) fun q1 =>
  if x4 < q1.1 then
    Option.bind (f_Rows_at 10 x4 1 q1.2) fun q2 =>
    if q2.1 < (q2.2.1 3 3) then
      (f_State_numberLarge_h5 n) x1 x2 x3 (x4 + 1) q2.2
    else
      Option.bind (f_State_placeOn x4 x2 q2.2) fun q3 =>
      if q3.1 = x1 then
        (f_State_numberLarge_h5 n) x1 x2 (x3 + 1) (x4 + 1) q3.2
      else
        (f_State_numberLarge_h5 n) x1 x2 x3 (x4 + 1) q3.2
  else
    some (x3, q1.2)
set_option maxRecDepth 20000 in
theorem t_State_numberLarge_h5 {l : Launch} {G : jG} (hG : jX G) : ∀ (n : Nat) (x1 : Int32) (x2 : Int32) (x3 : Int32) (x4 : Int32) (w : jW) (z : (Int32 × jW)), f_State_numberLarge_h5 n x1 x2 x3 x4 w = some z → Ev l G (jrm d_State_numberLarge 0 0) y_State_numberLarge (some (.int z.1), jR0, z.2) 0 0 0 0 5 [some (.ref 3), some (.int x1), some (.int x2), some (.int x3), some (.int x4)] [] jR0 w := by
  intro n
  induction n with
  | zero => intro x1 x2 x3 x4 w z h; simp only [f_State_numberLarge_h5] at h; cases h
  | succ n ih =>
    intro x1 x2 x3 x4 w z h
    rw [f_State_numberLarge_h5] at h
    refine ev_seg (o := 6) (nL := 5) (q := 11) (xs := [(.iload 4, 2, 4, 0, .null), (.aload_n 0, 1, 0, 0, .null), (.getfield 42, 3, 6, 8, .ref 3)]) (L' := [some (.ref 3), some (.int x1), some (.int x2), some (.int x3), some (.int x4)]) (st' := [.ref 10, .int x4]) (w' := w) (g := []) (K := [(10, 3), (3, 6)]) (by decide +kernel) rfl rfl rfl rfl (jk1 kz_10 (jk1 kz_3 jk0)) ?_
    obtain ⟨q1, hq1, h⟩ := jbe h
    refine ev_callV (ci := 3) (a := 10) (y2 := y_Rows_count) (o := 6) (idx := 87) (d2 := d_Rows_count) (n := 0) (mc2 := 0) (ms2 := 0) (As := []) (st := [.int x4]) (res2 := (some (.int q1.1), jR0, q1.2)) (by decide +kernel) rfl lk_6_87 mo_Rows_count mv_Rows_count ⟨Nat.le_of_ble_eq_true rfl, Nat.le_of_ble_eq_true rfl⟩ rfl rfl kz_10 (by decide) rfl (Nat.le_of_ble_eq_true rfl) ⟨Nat.le_refl _, Nat.le_refl _⟩ hG (e_Rows_count hG kz_10 hq1) ?_
    refine ev_icmp_ge (off := 40) (tgt := 54) (by decide +kernel) (by decide) (fun c6 => ?_) (fun c6 => ?_)
    · replace h := jneg c6 h
      refine ev_seg (o := 6) (nL := 5) (q := 55) (xs := [(.iload_n 3, 1, 3, 0, .null)]) (L' := [some (.ref 3), some (.int x1), some (.int x2), some (.int x3), some (.int x4)]) (st' := [.int x3]) (w' := q1.2) (g := []) (K := []) (by decide +kernel) rfl rfl rfl rfl jk0 ?_
      cases h
      exact ev_iret (by decide +kernel) rfl rfl rfl rfl
    · replace h := jpos c6 h
      refine ev_seg (o := 6) (nL := 5) (q := 24) (xs := [(.aload_n 0, 1, 0, 0, .null), (.getfield 42, 3, 6, 8, .ref 3), (.iload 4, 2, 4, 0, .null), (.iconst 1, 1, 0, 0, .int 1)]) (L' := [some (.ref 3), some (.int x1), some (.int x2), some (.int x3), some (.int x4)]) (st' := [.int 1, .int x4, .ref 10]) (w' := q1.2) (g := []) (K := [(10, 3), (3, 6)]) (by decide +kernel) rfl rfl rfl rfl (jk1 kz_10 (jk1 kz_3 jk0)) ?_
      obtain ⟨q2, hq2, h⟩ := jbe h
      refine ev_callV (ci := 3) (a := 10) (y2 := y_Rows_at) (o := 6) (idx := 91) (d2 := d_Rows_at) (n := 2) (mc2 := 0) (ms2 := 0) (As := [.int x4, .int 1]) (st := []) (res2 := (some (.int q2.1), jR0, q2.2)) (by decide +kernel) rfl lk_6_91 mo_Rows_at mv_Rows_at ⟨Nat.le_of_ble_eq_true rfl, Nat.le_of_ble_eq_true rfl⟩ rfl rfl kz_10 (by decide) rfl (Nat.le_of_ble_eq_true rfl) ⟨Nat.le_refl _, Nat.le_refl _⟩ hG (e_Rows_at hG kz_10 hq2) ?_
      refine ev_seg (o := 6) (nL := 5) (q := 31) (xs := [(.aload_n 0, 1, 0, 0, .null), (.getfield 21, 3, 6, 3, .int 0)]) (L' := [some (.ref 3), some (.int x1), some (.int x2), some (.int x3), some (.int x4)]) (st' := [.int (q2.2.1 3 3), .int q2.1]) (w' := q2.2) (g := []) (K := [(3, 6)]) (by decide +kernel) rfl rfl rfl rfl (jk1 kz_3 jk0) ?_
      refine ev_icmp_lt (off := 17) (tgt := 48) (by decide +kernel) (by decide) (fun c5 => ?_) (fun c5 => ?_)
      · replace h := jpos c5 h
        refine ev_seg (o := 6) (nL := 5) (q := 5) (xs := [(.iinc 4 1, 3, 4, 0, .int 1), (.goto (-46), 3, 0, 0, .null)]) (L' := [some (.ref 3), some (.int x1), some (.int x2), some (.int x3), some (.int (x4 + 1))]) (st' := []) (w' := q2.2) (g := []) (K := []) (by decide +kernel) rfl rfl rfl rfl jk0 ?_
        refine ev_mask [true, true, true, true, true] ?_
        exact ih _ _ _ _ _ _ h
      · replace h := jneg c5 h
        refine ev_seg (o := 6) (nL := 5) (q := 38) (xs := [(.aload_n 0, 1, 0, 0, .null), (.iload 4, 2, 4, 0, .null), (.iload_n 2, 1, 2, 0, .null)]) (L' := [some (.ref 3), some (.int x1), some (.int x2), some (.int x3), some (.int x4)]) (st' := [.int x2, .int x4, .ref 3]) (w' := q2.2) (g := []) (K := []) (by decide +kernel) rfl rfl rfl rfl jk0 ?_
        obtain ⟨q3, hq3, h⟩ := jbe h
        refine ev_callV (ci := 6) (a := 3) (y2 := y_State_placeOn) (o := 6) (idx := 116) (d2 := d_State_placeOn) (n := 2) (mc2 := 0) (ms2 := 0) (As := [.int x4, .int x2]) (st := []) (res2 := (some (.int q3.1), jR0, q3.2)) (by decide +kernel) rfl lk_6_116 mo_State_placeOn mv_State_placeOn ⟨Nat.le_of_ble_eq_true rfl, Nat.le_of_ble_eq_true rfl⟩ rfl rfl kz_3 (by decide) rfl (Nat.le_of_ble_eq_true rfl) ⟨Nat.le_refl _, Nat.le_refl _⟩ hG (e_State_placeOn hG hq3) ?_
        refine ev_seg (o := 6) (nL := 5) (q := 42) (xs := [(.iload_n 1, 1, 1, 0, .null)]) (L' := [some (.ref 3), some (.int x1), some (.int x2), some (.int x3), some (.int x4)]) (st' := [.int x1, .int q3.1]) (w' := q3.2) (g := []) (K := []) (by decide +kernel) rfl rfl rfl rfl jk0 ?_
        refine ev_icmp_ne (off := 6) (tgt := 48) (by decide +kernel) (by decide) (fun c4 => ?_) (fun c4 => ?_)
        · replace h := jneg c4 h
          refine ev_seg (o := 6) (nL := 5) (q := 5) (xs := [(.iinc 4 1, 3, 4, 0, .int 1), (.goto (-46), 3, 0, 0, .null)]) (L' := [some (.ref 3), some (.int x1), some (.int x2), some (.int x3), some (.int (x4 + 1))]) (st' := []) (w' := q3.2) (g := []) (K := []) (by decide +kernel) rfl rfl rfl rfl jk0 ?_
          refine ev_mask [true, true, true, true, true] ?_
          exact ih _ _ _ _ _ _ h
        · replace h := jpos c4 h
          refine ev_seg (o := 6) (nL := 5) (q := 5) (xs := [(.iinc 3 1, 3, 3, 0, .int 1), (.iinc 4 1, 3, 4, 0, .int 1), (.goto (-46), 3, 0, 0, .null)]) (L' := [some (.ref 3), some (.int x1), some (.int x2), some (.int (x3 + 1)), some (.int (x4 + 1))]) (st' := []) (w' := q3.2) (g := []) (K := []) (by decide +kernel) rfl rfl rfl rfl jk0 ?_
          refine ev_mask [true, true, true, true, true] ?_
          exact ih _ _ _ _ _ _ h
def f_State_numberLarge (x1 : Int32) (x2 : Int32) (w : jW) : Option (Int32 × jW) :=
  f_State_numberLarge_h5 jfu x1 x2 0 0 w
set_option maxRecDepth 20000 in
theorem e_State_numberLarge {l : Launch} {G : jG} (hG : jX G) {x1 : Int32} {x2 : Int32} {w : jW} {z : (Int32 × jW)} (h : f_State_numberLarge x1 x2 w = some z) : Ct l G y_State_numberLarge d_State_numberLarge 0 0 [.ref 3, .int x1, .int x2] jR0 w (some (.int z.1), jR0, z.2) := by
  rw [f_State_numberLarge] at h
  refine Ct.of (L := [some (.ref 3), some (.int x1), some (.int x2), none, none]) (by decide) (Nat.le_of_ble_eq_true rfl) rfl ?_
  refine ev_seg (o := 6) (nL := 5) (q := 5) (xs := [(.iconst 0, 1, 0, 0, .int 0), (.istore_n 3, 1, 3, 0, .null), (.iconst 0, 1, 0, 0, .int 0), (.istore 4, 2, 4, 0, .null)]) (L' := [some (.ref 3), some (.int x1), some (.int x2), some (.int 0), some (.int 0)]) (st' := []) (w' := w) (g := []) (K := []) (by decide +kernel) rfl rfl rfl rfl jk0 ?_
  refine ev_mask [true, true, true, true, true] ?_
  exact t_State_numberLarge_h5 hG jfu _ _ _ _ _ _ h
def f_Count_picture (x1 : Int32) (w : jW) : Option (Int32 × jW) :=
  Option.bind (f_Rows_has 6 x1 w) fun q1 =>
  if q1.1 = 0 then
    some ((-1), q1.2)
  else
    if (q1.2.1 3 0) = 0 then
      some ((-1), q1.2)
    else
      Option.bind (f_Rows_isFull 28 q1.2) fun q2 =>
      if q2.1 = 0 then
        Option.bind (f_Rows_at 6 x1 3 q2.2) fun q3 =>
        if q3.1 = 1 then
          some ((-1), q3.2)
        else
          Option.bind (f_State_hasSpot 34 x1 (q3.2.1 3 0) q3.2) fun q4 =>
          if q4.1 = 0 then
            Option.bind (f_State_numberLarge x1 ((q4.2.1 3 0) - 1) q4.2) fun q5 =>
            Option.bind (f_State_addSpot 28 x1 (q5.2.1 3 0) q5.2) fun q6 =>
            Option.bind (f_Rows_put 28 q6.1 2 q5.1 q6.2) fun q7 =>
            some (q5.1, q7)
          else
            some ((-1), q4.2)
      else
        some ((-1), q2.2)
set_option maxRecDepth 20000 in
theorem e_Count_picture {l : Launch} {G : jG} (hG : jX G) {x1 : Int32} {w : jW} {z : (Int32 × jW)} (h : f_Count_picture x1 w = some z) : Ct l G y_Count_picture d_Count_picture 0 0 [.ref 2, .int x1] jR0 w (some (.int z.1), jR0, z.2) := by
  rw [f_Count_picture] at h
  refine Ct.of (L := [some (.ref 2), some (.int x1), none, none]) (by decide) (Nat.le_of_ble_eq_true rfl) rfl ?_
  refine ev_seg (o := 9) (nL := 4) (q := 8) (xs := [(.aload_n 0, 1, 0, 0, .null), (.getfield 12, 3, 9, 0, .ref 6), (.getfield 58, 3, 6, 6, .ref 3), (.iload_n 1, 1, 1, 0, .null)]) (L' := [some (.ref 2), some (.int x1), none, none]) (st' := [.int x1, .ref 6]) (w' := w) (g := []) (K := [(6, 3), (3, 6), (3, 6), (2, 9)]) (by decide +kernel) rfl rfl rfl rfl (jk1 kz_6 (jk1 kz_3 (jk1 kz_3 (jk1 kz_2 jk0)))) ?_
  obtain ⟨q1, hq1, h⟩ := jbe h
  refine ev_callV (ci := 3) (a := 6) (y2 := y_Rows_has) (o := 9) (idx := 80) (d2 := d_Rows_has) (n := 1) (mc2 := 0) (ms2 := 0) (As := [.int x1]) (st := []) (res2 := (some (.int q1.1), jR0, q1.2)) (by decide +kernel) rfl lk_9_80 mo_Rows_has mv_Rows_has ⟨Nat.le_of_ble_eq_true rfl, Nat.le_of_ble_eq_true rfl⟩ rfl rfl kz_6 (by decide) rfl (Nat.le_of_ble_eq_true rfl) ⟨Nat.le_refl _, Nat.le_refl _⟩ hG (e_Rows_has hG kz_6 hq1) ?_
  refine ev_if_eq (off := 26) (tgt := 37) (by decide +kernel) (by decide) (fun c12 => ?_) (fun c12 => ?_)
  · replace h := jpos c12 h
    refine ev_seg (o := 9) (nL := 4) (q := 38) (xs := [(.iconst (-1), 1, 0, 0, .int (-1))]) (L' := [some (.ref 2), some (.int x1), none, none]) (st' := [.int (-1)]) (w' := q1.2) (g := []) (K := []) (by decide +kernel) rfl rfl rfl rfl jk0 ?_
    cases h
    exact ev_iret (by decide +kernel) rfl rfl rfl rfl
  · replace h := jneg c12 h
    refine ev_seg (o := 9) (nL := 4) (q := 21) (xs := [(.aload_n 0, 1, 0, 0, .null), (.getfield 12, 3, 9, 0, .ref 6), (.getfield 119, 3, 6, 0, .int 0)]) (L' := [some (.ref 2), some (.int x1), none, none]) (st' := [.int (q1.2.1 3 0)]) (w' := q1.2) (g := []) (K := [(3, 6), (3, 6), (2, 9)]) (by decide +kernel) rfl rfl rfl rfl (jk1 kz_3 (jk1 kz_3 (jk1 kz_2 jk0))) ?_
    refine ev_if_eq (off := 16) (tgt := 37) (by decide +kernel) (by decide) (fun c11 => ?_) (fun c11 => ?_)
    · replace h := jpos c11 h
      refine ev_seg (o := 9) (nL := 4) (q := 38) (xs := [(.iconst (-1), 1, 0, 0, .int (-1))]) (L' := [some (.ref 2), some (.int x1), none, none]) (st' := [.int (-1)]) (w' := q1.2) (g := []) (K := []) (by decide +kernel) rfl rfl rfl rfl jk0 ?_
      cases h
      exact ev_iret (by decide +kernel) rfl rfl rfl rfl
    · replace h := jneg c11 h
      refine ev_seg (o := 9) (nL := 4) (q := 31) (xs := [(.aload_n 0, 1, 0, 0, .null), (.getfield 12, 3, 9, 0, .ref 6), (.getfield 237, 3, 6, 14, .ref 3)]) (L' := [some (.ref 2), some (.int x1), none, none]) (st' := [.ref 28]) (w' := q1.2) (g := []) (K := [(28, 3), (3, 6), (3, 6), (2, 9)]) (by decide +kernel) rfl rfl rfl rfl (jk1 kz_28 (jk1 kz_3 (jk1 kz_3 (jk1 kz_2 jk0)))) ?_
      obtain ⟨q2, hq2, h⟩ := jbe h
      refine ev_callV (ci := 3) (a := 28) (y2 := y_Rows_isFull) (o := 9) (idx := 62) (d2 := d_Rows_isFull) (n := 0) (mc2 := 0) (ms2 := 0) (As := []) (st := []) (res2 := (some (.int q2.1), jR0, q2.2)) (by decide +kernel) rfl lk_9_62 mo_Rows_isFull mv_Rows_isFull ⟨Nat.le_of_ble_eq_true rfl, Nat.le_of_ble_eq_true rfl⟩ rfl rfl kz_28 (by decide) rfl (Nat.le_of_ble_eq_true rfl) ⟨Nat.le_refl _, Nat.le_refl _⟩ hG (e_Rows_isFull hG kz_28 hq2) ?_
      refine ev_if_eq (off := 5) (tgt := 39) (by decide +kernel) (by decide) (fun c10 => ?_) (fun c10 => ?_)
      · replace h := jpos c10 h
        refine ev_seg (o := 9) (nL := 4) (q := 48) (xs := [(.aload_n 0, 1, 0, 0, .null), (.getfield 12, 3, 9, 0, .ref 6), (.getfield 58, 3, 6, 6, .ref 3), (.iload_n 1, 1, 1, 0, .null), (.iconst 3, 1, 0, 0, .int 3)]) (L' := [some (.ref 2), some (.int x1), none, none]) (st' := [.int 3, .int x1, .ref 6]) (w' := q2.2) (g := []) (K := [(6, 3), (3, 6), (3, 6), (2, 9)]) (by decide +kernel) rfl rfl rfl rfl (jk1 kz_6 (jk1 kz_3 (jk1 kz_3 (jk1 kz_2 jk0)))) ?_
        obtain ⟨q3, hq3, h⟩ := jbe h
        refine ev_callV (ci := 3) (a := 6) (y2 := y_Rows_at) (o := 9) (idx := 83) (d2 := d_Rows_at) (n := 2) (mc2 := 0) (ms2 := 0) (As := [.int x1, .int 3]) (st := []) (res2 := (some (.int q3.1), jR0, q3.2)) (by decide +kernel) rfl lk_9_83 mo_Rows_at mv_Rows_at ⟨Nat.le_of_ble_eq_true rfl, Nat.le_of_ble_eq_true rfl⟩ rfl rfl kz_6 (by decide) rfl (Nat.le_of_ble_eq_true rfl) ⟨Nat.le_refl _, Nat.le_refl _⟩ hG (e_Rows_at hG kz_6 hq3) ?_
        refine ev_seg (o := 9) (nL := 4) (q := 52) (xs := [(.iconst 1, 1, 0, 0, .int 1)]) (L' := [some (.ref 2), some (.int x1), none, none]) (st' := [.int 1, .int q3.1]) (w' := q3.2) (g := []) (K := []) (by decide +kernel) rfl rfl rfl rfl jk0 ?_
        refine ev_icmp_eq (off := 24) (tgt := 76) (by decide +kernel) (by decide) (fun c9 => ?_) (fun c9 => ?_)
        · replace h := jpos c9 h
          refine ev_seg (o := 9) (nL := 4) (q := 77) (xs := [(.iconst (-1), 1, 0, 0, .int (-1))]) (L' := [some (.ref 2), some (.int x1), none, none]) (st' := [.int (-1)]) (w' := q3.2) (g := []) (K := []) (by decide +kernel) rfl rfl rfl rfl jk0 ?_
          cases h
          exact ev_iret (by decide +kernel) rfl rfl rfl rfl
        · replace h := jneg c9 h
          refine ev_seg (o := 9) (nL := 4) (q := 70) (xs := [(.aload_n 0, 1, 0, 0, .null), (.getfield 12, 3, 9, 0, .ref 6), (.getfield 230, 3, 6, 17, .ref 3), (.iload_n 1, 1, 1, 0, .null), (.aload_n 0, 1, 0, 0, .null), (.getfield 12, 3, 9, 0, .ref 6), (.getfield 119, 3, 6, 0, .int 0)]) (L' := [some (.ref 2), some (.int x1), none, none]) (st' := [.int (q3.2.1 3 0), .int x1, .ref 34]) (w' := q3.2) (g := []) (K := [(3, 6), (3, 6), (2, 9), (34, 3), (3, 6), (3, 6), (2, 9)]) (by decide +kernel) rfl rfl rfl rfl (jk1 kz_3 (jk1 kz_3 (jk1 kz_2 (jk1 kz_34 (jk1 kz_3 (jk1 kz_3 (jk1 kz_2 jk0))))))) ?_
          obtain ⟨q4, hq4, h⟩ := jbe h
          refine ev_callS (y2 := y_State_hasSpot) (o := 9) (idx := 233) (d2 := d_State_hasSpot) (n := 3) (mc2 := 0) (ms2 := 0) (As := [.ref 34, .int x1, .int (q3.2.1 3 0)]) (st := []) (res2 := (some (.int q4.1), jR0, q4.2)) (by decide +kernel) rfl lk_9_233 mo_State_hasSpot ms_State_hasSpot ⟨Nat.le_of_ble_eq_true rfl, Nat.le_of_ble_eq_true rfl⟩ rfl rfl (Nat.le_of_ble_eq_true rfl) ⟨Nat.le_refl _, Nat.le_refl _⟩ hG (e_State_hasSpot hG kz_34 hq4) ?_
          refine ev_if_eq (off := 5) (tgt := 78) (by decide +kernel) (by decide) (fun c8 => ?_) (fun c8 => ?_)
          · replace h := jpos c8 h
            refine ev_seg (o := 9) (nL := 4) (q := 92) (xs := [(.aload_n 0, 1, 0, 0, .null), (.getfield 12, 3, 9, 0, .ref 6), (.iload_n 1, 1, 1, 0, .null), (.aload_n 0, 1, 0, 0, .null), (.getfield 12, 3, 9, 0, .ref 6), (.getfield 119, 3, 6, 0, .int 0), (.iconst 1, 1, 0, 0, .int 1), (.isub, 1, 0, 0, .null)]) (L' := [some (.ref 2), some (.int x1), none, none]) (st' := [.int ((q4.2.1 3 0) - 1), .int x1, .ref 3]) (w' := q4.2) (g := []) (K := [(3, 6), (3, 6), (2, 9), (3, 6), (2, 9)]) (by decide +kernel) rfl rfl rfl rfl (jk1 kz_3 (jk1 kz_3 (jk1 kz_2 (jk1 kz_3 (jk1 kz_2 jk0))))) ?_
            obtain ⟨q5, hq5, h⟩ := jbe h
            refine ev_callV (ci := 6) (a := 3) (y2 := y_State_numberLarge) (o := 9) (idx := 240) (d2 := d_State_numberLarge) (n := 2) (mc2 := 0) (ms2 := 0) (As := [.int x1, .int ((q4.2.1 3 0) - 1)]) (st := []) (res2 := (some (.int q5.1), jR0, q5.2)) (by decide +kernel) rfl lk_9_240 mo_State_numberLarge mv_State_numberLarge ⟨Nat.le_of_ble_eq_true rfl, Nat.le_of_ble_eq_true rfl⟩ rfl rfl kz_3 (by decide) rfl (Nat.le_of_ble_eq_true rfl) ⟨Nat.le_refl _, Nat.le_refl _⟩ hG (e_State_numberLarge hG hq5) ?_
            refine ev_seg (o := 9) (nL := 4) (q := 111) (xs := [(.istore_n 2, 1, 2, 0, .null), (.aload_n 0, 1, 0, 0, .null), (.getfield 12, 3, 9, 0, .ref 6), (.getfield 237, 3, 6, 14, .ref 3), (.iload_n 1, 1, 1, 0, .null), (.aload_n 0, 1, 0, 0, .null), (.getfield 12, 3, 9, 0, .ref 6), (.getfield 119, 3, 6, 0, .int 0)]) (L' := [some (.ref 2), some (.int x1), some (.int q5.1), none]) (st' := [.int (q5.2.1 3 0), .int x1, .ref 28]) (w' := q5.2) (g := []) (K := [(3, 6), (3, 6), (2, 9), (28, 3), (3, 6), (3, 6), (2, 9)]) (by decide +kernel) rfl rfl rfl rfl (jk1 kz_3 (jk1 kz_3 (jk1 kz_2 (jk1 kz_28 (jk1 kz_3 (jk1 kz_3 (jk1 kz_2 jk0))))))) ?_
            obtain ⟨q6, hq6, h⟩ := jbe h
            refine ev_callS (y2 := y_State_addSpot) (o := 9) (idx := 147) (d2 := d_State_addSpot) (n := 3) (mc2 := 0) (ms2 := 0) (As := [.ref 28, .int x1, .int (q5.2.1 3 0)]) (st := []) (res2 := (some (.int q6.1), jR0, q6.2)) (by decide +kernel) rfl lk_9_147 mo_State_addSpot ms_State_addSpot ⟨Nat.le_of_ble_eq_true rfl, Nat.le_of_ble_eq_true rfl⟩ rfl rfl (Nat.le_of_ble_eq_true rfl) ⟨Nat.le_refl _, Nat.le_refl _⟩ hG (e_State_addSpot hG kz_28 hq6) ?_
            refine ev_seg (o := 9) (nL := 4) (q := 125) (xs := [(.istore_n 3, 1, 3, 0, .null), (.aload_n 0, 1, 0, 0, .null), (.getfield 12, 3, 9, 0, .ref 6), (.getfield 237, 3, 6, 14, .ref 3), (.iload_n 3, 1, 3, 0, .null), (.iconst 2, 1, 0, 0, .int 2), (.iload_n 2, 1, 2, 0, .null)]) (L' := [some (.ref 2), some (.int x1), some (.int q5.1), some (.int q6.1)]) (st' := [.int q5.1, .int 2, .int q6.1, .ref 28]) (w' := q6.2) (g := []) (K := [(28, 3), (3, 6), (3, 6), (2, 9)]) (by decide +kernel) rfl rfl rfl rfl (jk1 kz_28 (jk1 kz_3 (jk1 kz_3 (jk1 kz_2 jk0)))) ?_
            obtain ⟨q7, hq7, h⟩ := jbe h
            refine ev_callV (ci := 3) (a := 28) (y2 := y_Rows_put) (o := 9) (idx := 72) (d2 := d_Rows_put) (n := 3) (mc2 := 0) (ms2 := 0) (As := [.int q6.1, .int 2, .int q5.1]) (st := []) (res2 := (none, jR0, q7)) (by decide +kernel) rfl lk_9_72 mo_Rows_put mv_Rows_put ⟨Nat.le_of_ble_eq_true rfl, Nat.le_of_ble_eq_true rfl⟩ rfl rfl kz_28 (by decide) rfl (Nat.le_of_ble_eq_true rfl) ⟨Nat.le_refl _, Nat.le_refl _⟩ hG (e_Rows_put hG kz_28 hq7) ?_
            refine ev_seg (o := 9) (nL := 4) (q := 129) (xs := [(.iload_n 2, 1, 2, 0, .null)]) (L' := [some (.ref 2), some (.int x1), some (.int q5.1), some (.int q6.1)]) (st' := [.int q5.1]) (w' := q7) (g := []) (K := []) (by decide +kernel) rfl rfl rfl rfl jk0 ?_
            cases h
            exact ev_iret (by decide +kernel) rfl rfl rfl rfl
          · replace h := jneg c8 h
            refine ev_seg (o := 9) (nL := 4) (q := 77) (xs := [(.iconst (-1), 1, 0, 0, .int (-1))]) (L' := [some (.ref 2), some (.int x1), none, none]) (st' := [.int (-1)]) (w' := q4.2) (g := []) (K := []) (by decide +kernel) rfl rfl rfl rfl jk0 ?_
            cases h
            exact ev_iret (by decide +kernel) rfl rfl rfl rfl
      · replace h := jneg c10 h
        refine ev_seg (o := 9) (nL := 4) (q := 38) (xs := [(.iconst (-1), 1, 0, 0, .int (-1))]) (L' := [some (.ref 2), some (.int x1), none, none]) (st' := [.int (-1)]) (w' := q2.2) (g := []) (K := []) (by decide +kernel) rfl rfl rfl rfl jk0 ?_
        cases h
        exact ev_iret (by decide +kernel) rfl rfl rfl rfl
def f_Count_isKnowable (x1 : Int32) (x2 : Int32) (x3 : Int32) (x4 : Int32) (w : jW) : Option (Int32 × jW) :=
  Option.bind (f_Rows_has 6 x1 w) fun q1 =>
  if q1.1 = 0 then
    some (0, q1.2)
  else
    Option.bind (f_State_isSort x2 q1.2) fun q2 =>
    if q2.1 = 0 then
      some (0, q2.2)
    else
      if x3 < 0 then
        some (0, q2.2)
      else
        if x3 ≤ x4 then
          if x4 ≤ 1999 then
            some (1, q2.2)
          else
            some (0, q2.2)
        else
          some (0, q2.2)
set_option maxRecDepth 20000 in
theorem e_Count_isKnowable {l : Launch} {G : jG} (hG : jX G) {x1 : Int32} {x2 : Int32} {x3 : Int32} {x4 : Int32} {w : jW} {z : (Int32 × jW)} (h : f_Count_isKnowable x1 x2 x3 x4 w = some z) : Ct l G y_Count_isKnowable d_Count_isKnowable 0 0 [.ref 2, .int x1, .int x2, .int x3, .int x4] jR0 w (some (.int z.1), jR0, z.2) := by
  rw [f_Count_isKnowable] at h
  refine Ct.of (L := [some (.ref 2), some (.int x1), some (.int x2), some (.int x3), some (.int x4)]) (by decide) (Nat.le_of_ble_eq_true rfl) rfl ?_
  refine ev_seg (o := 9) (nL := 5) (q := 8) (xs := [(.aload_n 0, 1, 0, 0, .null), (.getfield 12, 3, 9, 0, .ref 6), (.getfield 58, 3, 6, 6, .ref 3), (.iload_n 1, 1, 1, 0, .null)]) (L' := [some (.ref 2), some (.int x1), some (.int x2), some (.int x3), some (.int x4)]) (st' := [.int x1, .ref 6]) (w' := w) (g := []) (K := [(6, 3), (3, 6), (3, 6), (2, 9)]) (by decide +kernel) rfl rfl rfl rfl (jk1 kz_6 (jk1 kz_3 (jk1 kz_3 (jk1 kz_2 jk0)))) ?_
  obtain ⟨q1, hq1, h⟩ := jbe h
  refine ev_callV (ci := 3) (a := 6) (y2 := y_Rows_has) (o := 9) (idx := 80) (d2 := d_Rows_has) (n := 1) (mc2 := 0) (ms2 := 0) (As := [.int x1]) (st := []) (res2 := (some (.int q1.1), jR0, q1.2)) (by decide +kernel) rfl lk_9_80 mo_Rows_has mv_Rows_has ⟨Nat.le_of_ble_eq_true rfl, Nat.le_of_ble_eq_true rfl⟩ rfl rfl kz_6 (by decide) rfl (Nat.le_of_ble_eq_true rfl) ⟨Nat.le_refl _, Nat.le_refl _⟩ hG (e_Rows_has hG kz_6 hq1) ?_
  refine ev_if_eq (off := 32) (tgt := 43) (by decide +kernel) (by decide) (fun c7 => ?_) (fun c7 => ?_)
  · replace h := jpos c7 h
    refine ev_seg (o := 9) (nL := 5) (q := 44) (xs := [(.iconst 0, 1, 0, 0, .int 0)]) (L' := [some (.ref 2), some (.int x1), some (.int x2), some (.int x3), some (.int x4)]) (st' := [.int 0]) (w' := q1.2) (g := []) (K := []) (by decide +kernel) rfl rfl rfl rfl jk0 ?_
    cases h
    exact ev_zret (by decide +kernel) rfl rfl rfl rfl rfl
  · replace h := jneg c7 h
    refine ev_seg (o := 9) (nL := 5) (q := 15) (xs := [(.iload_n 2, 1, 2, 0, .null)]) (L' := [some (.ref 2), some (.int x1), some (.int x2), some (.int x3), some (.int x4)]) (st' := [.int x2]) (w' := q1.2) (g := []) (K := []) (by decide +kernel) rfl rfl rfl rfl jk0 ?_
    obtain ⟨q2, hq2, h⟩ := jbe h
    refine ev_callS (y2 := y_State_isSort) (o := 9) (idx := 97) (d2 := d_State_isSort) (n := 1) (mc2 := 0) (ms2 := 0) (As := [.int x2]) (st := []) (res2 := (some (.int q2.1), jR0, q2.2)) (by decide +kernel) rfl lk_9_97 mo_State_isSort ms_State_isSort ⟨Nat.le_of_ble_eq_true rfl, Nat.le_of_ble_eq_true rfl⟩ rfl rfl (Nat.le_of_ble_eq_true rfl) ⟨Nat.le_refl _, Nat.le_refl _⟩ hG (e_State_isSort hG hq2) ?_
    refine ev_if_eq (off := 25) (tgt := 43) (by decide +kernel) (by decide) (fun c6 => ?_) (fun c6 => ?_)
    · replace h := jpos c6 h
      refine ev_seg (o := 9) (nL := 5) (q := 44) (xs := [(.iconst 0, 1, 0, 0, .int 0)]) (L' := [some (.ref 2), some (.int x1), some (.int x2), some (.int x3), some (.int x4)]) (st' := [.int 0]) (w' := q2.2) (g := []) (K := []) (by decide +kernel) rfl rfl rfl rfl jk0 ?_
      cases h
      exact ev_zret (by decide +kernel) rfl rfl rfl rfl rfl
    · replace h := jneg c6 h
      refine ev_seg (o := 9) (nL := 5) (q := 22) (xs := [(.iload_n 3, 1, 3, 0, .null)]) (L' := [some (.ref 2), some (.int x1), some (.int x2), some (.int x3), some (.int x4)]) (st' := [.int x3]) (w' := q2.2) (g := []) (K := []) (by decide +kernel) rfl rfl rfl rfl jk0 ?_
      refine ev_if_lt (off := 21) (tgt := 43) (by decide +kernel) (by decide) (fun c5 => ?_) (fun c5 => ?_)
      · replace h := jpos c5 h
        refine ev_seg (o := 9) (nL := 5) (q := 44) (xs := [(.iconst 0, 1, 0, 0, .int 0)]) (L' := [some (.ref 2), some (.int x1), some (.int x2), some (.int x3), some (.int x4)]) (st' := [.int 0]) (w' := q2.2) (g := []) (K := []) (by decide +kernel) rfl rfl rfl rfl jk0 ?_
        cases h
        exact ev_zret (by decide +kernel) rfl rfl rfl rfl rfl
      · replace h := jneg c5 h
        refine ev_seg (o := 9) (nL := 5) (q := 28) (xs := [(.iload_n 3, 1, 3, 0, .null), (.iload 4, 2, 4, 0, .null)]) (L' := [some (.ref 2), some (.int x1), some (.int x2), some (.int x3), some (.int x4)]) (st' := [.int x4, .int x3]) (w' := q2.2) (g := []) (K := []) (by decide +kernel) rfl rfl rfl rfl jk0 ?_
        refine ev_icmp_gt (off := 15) (tgt := 43) (by decide +kernel) (by decide) (fun c4 => ?_) (fun c4 => ?_)
        · replace h := jneg c4 h
          refine ev_seg (o := 9) (nL := 5) (q := 44) (xs := [(.iconst 0, 1, 0, 0, .int 0)]) (L' := [some (.ref 2), some (.int x1), some (.int x2), some (.int x3), some (.int x4)]) (st' := [.int 0]) (w' := q2.2) (g := []) (K := []) (by decide +kernel) rfl rfl rfl rfl jk0 ?_
          cases h
          exact ev_zret (by decide +kernel) rfl rfl rfl rfl rfl
        · replace h := jpos c4 h
          refine ev_seg (o := 9) (nL := 5) (q := 36) (xs := [(.iload 4, 2, 4, 0, .null), (.sipush 1999, 3, 0, 0, .int 1999)]) (L' := [some (.ref 2), some (.int x1), some (.int x2), some (.int x3), some (.int x4)]) (st' := [.int 1999, .int x4]) (w' := q2.2) (g := []) (K := []) (by decide +kernel) rfl rfl rfl rfl jk0 ?_
          refine ev_icmp_gt (off := 7) (tgt := 43) (by decide +kernel) (by decide) (fun c3 => ?_) (fun c3 => ?_)
          · replace h := jneg c3 h
            refine ev_seg (o := 9) (nL := 5) (q := 44) (xs := [(.iconst 0, 1, 0, 0, .int 0)]) (L' := [some (.ref 2), some (.int x1), some (.int x2), some (.int x3), some (.int x4)]) (st' := [.int 0]) (w' := q2.2) (g := []) (K := []) (by decide +kernel) rfl rfl rfl rfl jk0 ?_
            cases h
            exact ev_zret (by decide +kernel) rfl rfl rfl rfl rfl
          · replace h := jpos c3 h
            refine ev_seg (o := 9) (nL := 5) (q := 44) (xs := [(.iconst 1, 1, 0, 0, .int 1), (.goto 4, 3, 0, 0, .null)]) (L' := [some (.ref 2), some (.int x1), some (.int x2), some (.int x3), some (.int x4)]) (st' := [.int 1]) (w' := q2.2) (g := []) (K := []) (by decide +kernel) rfl rfl rfl rfl jk0 ?_
            cases h
            exact ev_zret (by decide +kernel) rfl rfl rfl rfl rfl
def f_Knowing_isQuiet_h3 : Nat → Int32 → Int32 → Int32 → Int32 → jW → Option (Int32 × jW)
  | 0, _, _, _, _, _ => none
  | n + 1, x1, x2, x3, x4, w =>
  Option.bind (f_Rows_count 26 w) fun q1 =>
  if x4 < q1.1 then
    Option.bind (f_Rows_at 26 x4 6 q1.2) fun q2 =>
    Option.bind (f_Rows_at 26 x4 8 q2.2) fun q3 =>
    if q3.1 = x1 then
      Option.bind (f_Rows_at 26 x4 5 q3.2) fun q4 =>
      if q4.1 = 1 then
        if q2.1 ≤ x2 then
          (f_Knowing_isQuiet_h3 n) x1 x2 x3 (x4 + 1) q4.2
        else
          if q2.1 ≤ x3 then
            Option.bind (f_Rows_at 26 x4 9 q4.2) fun q5 =>
            if q5.1 < x2 then
              some (1, q5.2)
            else
              (f_Knowing_isQuiet_h3 n) x1 x2 x3 (x4 + 1) q5.2
          else
            (f_Knowing_isQuiet_h3 n) x1 x2 x3 (x4 + 1) q4.2
      else
        (f_Knowing_isQuiet_h3 n) x1 x2 x3 (x4 + 1) q4.2
    else
      (f_Knowing_isQuiet_h3 n) x1 x2 x3 (x4 + 1) q3.2
  else
    some (0, q1.2)
set_option maxRecDepth 20000 in
theorem t_Knowing_isQuiet_h3 {l : Launch} {G : jG} (hG : jX G) : ∀ (n : Nat) (x1 : Int32) (x2 : Int32) (x3 : Int32) (x4 : Int32) (w : jW) (z : (Int32 × jW)), f_Knowing_isQuiet_h3 n x1 x2 x3 x4 w = some z → Ev l G (jrm d_Knowing_isQuiet 0 0) y_Knowing_isQuiet (some (.int z.1), jR0, z.2) 0 0 0 0 3 [some (.ref 3), some (.int x1), some (.int x2), some (.int x3), some (.int x4), none] [] jR0 w := by
  intro n
  induction n with
  | zero => intro x1 x2 x3 x4 w z h; simp only [f_Knowing_isQuiet_h3] at h; cases h
  | succ n ih =>
    intro x1 x2 x3 x4 w z h
    rw [f_Knowing_isQuiet_h3] at h
    refine ev_seg (o := 1) (nL := 6) (q := 9) (xs := [(.iload 4, 2, 4, 0, .null), (.aload_n 0, 1, 0, 0, .null), (.getfield 73, 3, 6, 13, .ref 3)]) (L' := [some (.ref 3), some (.int x1), some (.int x2), some (.int x3), some (.int x4), none]) (st' := [.ref 26, .int x4]) (w' := w) (g := []) (K := [(26, 3), (3, 6)]) (by decide +kernel) rfl rfl rfl rfl (jk1 kz_26 (jk1 kz_3 jk0)) ?_
    obtain ⟨q1, hq1, h⟩ := jbe h
    refine ev_callV (ci := 3) (a := 26) (y2 := y_Rows_count) (o := 1) (idx := 25) (d2 := d_Rows_count) (n := 0) (mc2 := 0) (ms2 := 0) (As := []) (st := [.int x4]) (res2 := (some (.int q1.1), jR0, q1.2)) (by decide +kernel) rfl lk_1_25 mo_Rows_count mv_Rows_count ⟨Nat.le_of_ble_eq_true rfl, Nat.le_of_ble_eq_true rfl⟩ rfl rfl kz_26 (by decide) rfl (Nat.le_of_ble_eq_true rfl) ⟨Nat.le_refl _, Nat.le_refl _⟩ hG (e_Rows_count hG kz_26 hq1) ?_
    refine ev_icmp_ge (off := 80) (tgt := 92) (by decide +kernel) (by decide) (fun c11 => ?_) (fun c11 => ?_)
    · replace h := jneg c11 h
      refine ev_seg (o := 1) (nL := 6) (q := 93) (xs := [(.iconst 0, 1, 0, 0, .int 0)]) (L' := [some (.ref 3), some (.int x1), some (.int x2), some (.int x3), some (.int x4), none]) (st' := [.int 0]) (w' := q1.2) (g := []) (K := []) (by decide +kernel) rfl rfl rfl rfl jk0 ?_
      cases h
      exact ev_zret (by decide +kernel) rfl rfl rfl rfl rfl
    · replace h := jpos c11 h
      refine ev_seg (o := 1) (nL := 6) (q := 23) (xs := [(.aload_n 0, 1, 0, 0, .null), (.getfield 73, 3, 6, 13, .ref 3), (.iload 4, 2, 4, 0, .null), (.bipush 6, 2, 0, 0, .int 6)]) (L' := [some (.ref 3), some (.int x1), some (.int x2), some (.int x3), some (.int x4), none]) (st' := [.int 6, .int x4, .ref 26]) (w' := q1.2) (g := []) (K := [(26, 3), (3, 6)]) (by decide +kernel) rfl rfl rfl rfl (jk1 kz_26 (jk1 kz_3 jk0)) ?_
      obtain ⟨q2, hq2, h⟩ := jbe h
      refine ev_callV (ci := 3) (a := 26) (y2 := y_Rows_at) (o := 1) (idx := 31) (d2 := d_Rows_at) (n := 2) (mc2 := 0) (ms2 := 0) (As := [.int x4, .int 6]) (st := []) (res2 := (some (.int q2.1), jR0, q2.2)) (by decide +kernel) rfl lk_1_31 mo_Rows_at mv_Rows_at ⟨Nat.le_of_ble_eq_true rfl, Nat.le_of_ble_eq_true rfl⟩ rfl rfl kz_26 (by decide) rfl (Nat.le_of_ble_eq_true rfl) ⟨Nat.le_refl _, Nat.le_refl _⟩ hG (e_Rows_at hG kz_26 hq2) ?_
      refine ev_seg (o := 1) (nL := 6) (q := 36) (xs := [(.istore 5, 2, 5, 0, .null), (.aload_n 0, 1, 0, 0, .null), (.getfield 73, 3, 6, 13, .ref 3), (.iload 4, 2, 4, 0, .null), (.bipush 8, 2, 0, 0, .int 8)]) (L' := [some (.ref 3), some (.int x1), some (.int x2), some (.int x3), some (.int x4), some (.int q2.1)]) (st' := [.int 8, .int x4, .ref 26]) (w' := q2.2) (g := []) (K := [(26, 3), (3, 6)]) (by decide +kernel) rfl rfl rfl rfl (jk1 kz_26 (jk1 kz_3 jk0)) ?_
      obtain ⟨q3, hq3, h⟩ := jbe h
      refine ev_callV (ci := 3) (a := 26) (y2 := y_Rows_at) (o := 1) (idx := 31) (d2 := d_Rows_at) (n := 2) (mc2 := 0) (ms2 := 0) (As := [.int x4, .int 8]) (st := []) (res2 := (some (.int q3.1), jR0, q3.2)) (by decide +kernel) rfl lk_1_31 mo_Rows_at mv_Rows_at ⟨Nat.le_of_ble_eq_true rfl, Nat.le_of_ble_eq_true rfl⟩ rfl rfl kz_26 (by decide) rfl (Nat.le_of_ble_eq_true rfl) ⟨Nat.le_refl _, Nat.le_refl _⟩ hG (e_Rows_at hG kz_26 hq3) ?_
      refine ev_seg (o := 1) (nL := 6) (q := 40) (xs := [(.iload_n 1, 1, 1, 0, .null)]) (L' := [some (.ref 3), some (.int x1), some (.int x2), some (.int x3), some (.int x4), some (.int q2.1)]) (st' := [.int x1, .int q3.1]) (w' := q3.2) (g := []) (K := []) (by decide +kernel) rfl rfl rfl rfl jk0 ?_
      refine ev_icmp_ne (off := 46) (tgt := 86) (by decide +kernel) (by decide) (fun c10 => ?_) (fun c10 => ?_)
      · replace h := jneg c10 h
        refine ev_seg (o := 1) (nL := 6) (q := 3) (xs := [(.iinc 4 1, 3, 4, 0, .int 1), (.goto (-86), 3, 0, 0, .null)]) (L' := [some (.ref 3), some (.int x1), some (.int x2), some (.int x3), some (.int (x4 + 1)), some (.int q2.1)]) (st' := []) (w' := q3.2) (g := []) (K := []) (by decide +kernel) rfl rfl rfl rfl jk0 ?_
        refine ev_mask [true, true, true, true, true, false] ?_
        exact ih _ _ _ _ _ _ h
      · replace h := jpos c10 h
        refine ev_seg (o := 1) (nL := 6) (q := 50) (xs := [(.aload_n 0, 1, 0, 0, .null), (.getfield 73, 3, 6, 13, .ref 3), (.iload 4, 2, 4, 0, .null), (.iconst 5, 1, 0, 0, .int 5)]) (L' := [some (.ref 3), some (.int x1), some (.int x2), some (.int x3), some (.int x4), some (.int q2.1)]) (st' := [.int 5, .int x4, .ref 26]) (w' := q3.2) (g := []) (K := [(26, 3), (3, 6)]) (by decide +kernel) rfl rfl rfl rfl (jk1 kz_26 (jk1 kz_3 jk0)) ?_
        obtain ⟨q4, hq4, h⟩ := jbe h
        refine ev_callV (ci := 3) (a := 26) (y2 := y_Rows_at) (o := 1) (idx := 31) (d2 := d_Rows_at) (n := 2) (mc2 := 0) (ms2 := 0) (As := [.int x4, .int 5]) (st := []) (res2 := (some (.int q4.1), jR0, q4.2)) (by decide +kernel) rfl lk_1_31 mo_Rows_at mv_Rows_at ⟨Nat.le_of_ble_eq_true rfl, Nat.le_of_ble_eq_true rfl⟩ rfl rfl kz_26 (by decide) rfl (Nat.le_of_ble_eq_true rfl) ⟨Nat.le_refl _, Nat.le_refl _⟩ hG (e_Rows_at hG kz_26 hq4) ?_
        refine ev_seg (o := 1) (nL := 6) (q := 54) (xs := [(.iconst 1, 1, 0, 0, .int 1)]) (L' := [some (.ref 3), some (.int x1), some (.int x2), some (.int x3), some (.int x4), some (.int q2.1)]) (st' := [.int 1, .int q4.1]) (w' := q4.2) (g := []) (K := []) (by decide +kernel) rfl rfl rfl rfl jk0 ?_
        refine ev_icmp_ne (off := 32) (tgt := 86) (by decide +kernel) (by decide) (fun c9 => ?_) (fun c9 => ?_)
        · replace h := jneg c9 h
          refine ev_seg (o := 1) (nL := 6) (q := 3) (xs := [(.iinc 4 1, 3, 4, 0, .int 1), (.goto (-86), 3, 0, 0, .null)]) (L' := [some (.ref 3), some (.int x1), some (.int x2), some (.int x3), some (.int (x4 + 1)), some (.int q2.1)]) (st' := []) (w' := q4.2) (g := []) (K := []) (by decide +kernel) rfl rfl rfl rfl jk0 ?_
          refine ev_mask [true, true, true, true, true, false] ?_
          exact ih _ _ _ _ _ _ h
        · replace h := jpos c9 h
          refine ev_seg (o := 1) (nL := 6) (q := 60) (xs := [(.iload 5, 2, 5, 0, .null), (.iload_n 2, 1, 2, 0, .null)]) (L' := [some (.ref 3), some (.int x1), some (.int x2), some (.int x3), some (.int x4), some (.int q2.1)]) (st' := [.int x2, .int q2.1]) (w' := q4.2) (g := []) (K := []) (by decide +kernel) rfl rfl rfl rfl jk0 ?_
          refine ev_icmp_le (off := 26) (tgt := 86) (by decide +kernel) (by decide) (fun c8 => ?_) (fun c8 => ?_)
          · replace h := jpos c8 h
            refine ev_seg (o := 1) (nL := 6) (q := 3) (xs := [(.iinc 4 1, 3, 4, 0, .int 1), (.goto (-86), 3, 0, 0, .null)]) (L' := [some (.ref 3), some (.int x1), some (.int x2), some (.int x3), some (.int (x4 + 1)), some (.int q2.1)]) (st' := []) (w' := q4.2) (g := []) (K := []) (by decide +kernel) rfl rfl rfl rfl jk0 ?_
            refine ev_mask [true, true, true, true, true, false] ?_
            exact ih _ _ _ _ _ _ h
          · replace h := jneg c8 h
            refine ev_seg (o := 1) (nL := 6) (q := 66) (xs := [(.iload 5, 2, 5, 0, .null), (.iload_n 3, 1, 3, 0, .null)]) (L' := [some (.ref 3), some (.int x1), some (.int x2), some (.int x3), some (.int x4), some (.int q2.1)]) (st' := [.int x3, .int q2.1]) (w' := q4.2) (g := []) (K := []) (by decide +kernel) rfl rfl rfl rfl jk0 ?_
            refine ev_icmp_gt (off := 20) (tgt := 86) (by decide +kernel) (by decide) (fun c7 => ?_) (fun c7 => ?_)
            · replace h := jneg c7 h
              refine ev_seg (o := 1) (nL := 6) (q := 3) (xs := [(.iinc 4 1, 3, 4, 0, .int 1), (.goto (-86), 3, 0, 0, .null)]) (L' := [some (.ref 3), some (.int x1), some (.int x2), some (.int x3), some (.int (x4 + 1)), some (.int q2.1)]) (st' := []) (w' := q4.2) (g := []) (K := []) (by decide +kernel) rfl rfl rfl rfl jk0 ?_
              refine ev_mask [true, true, true, true, true, false] ?_
              exact ih _ _ _ _ _ _ h
            · replace h := jpos c7 h
              refine ev_seg (o := 1) (nL := 6) (q := 77) (xs := [(.aload_n 0, 1, 0, 0, .null), (.getfield 73, 3, 6, 13, .ref 3), (.iload 4, 2, 4, 0, .null), (.bipush 9, 2, 0, 0, .int 9)]) (L' := [some (.ref 3), some (.int x1), some (.int x2), some (.int x3), some (.int x4), some (.int q2.1)]) (st' := [.int 9, .int x4, .ref 26]) (w' := q4.2) (g := []) (K := [(26, 3), (3, 6)]) (by decide +kernel) rfl rfl rfl rfl (jk1 kz_26 (jk1 kz_3 jk0)) ?_
              obtain ⟨q5, hq5, h⟩ := jbe h
              refine ev_callV (ci := 3) (a := 26) (y2 := y_Rows_at) (o := 1) (idx := 31) (d2 := d_Rows_at) (n := 2) (mc2 := 0) (ms2 := 0) (As := [.int x4, .int 9]) (st := []) (res2 := (some (.int q5.1), jR0, q5.2)) (by decide +kernel) rfl lk_1_31 mo_Rows_at mv_Rows_at ⟨Nat.le_of_ble_eq_true rfl, Nat.le_of_ble_eq_true rfl⟩ rfl rfl kz_26 (by decide) rfl (Nat.le_of_ble_eq_true rfl) ⟨Nat.le_refl _, Nat.le_refl _⟩ hG (e_Rows_at hG kz_26 hq5) ?_
              refine ev_seg (o := 1) (nL := 6) (q := 81) (xs := [(.iload_n 2, 1, 2, 0, .null)]) (L' := [some (.ref 3), some (.int x1), some (.int x2), some (.int x3), some (.int x4), some (.int q2.1)]) (st' := [.int x2, .int q5.1]) (w' := q5.2) (g := []) (K := []) (by decide +kernel) rfl rfl rfl rfl jk0 ?_
              refine ev_icmp_ge (off := 5) (tgt := 86) (by decide +kernel) (by decide) (fun c6 => ?_) (fun c6 => ?_)
              · replace h := jneg c6 h
                refine ev_seg (o := 1) (nL := 6) (q := 3) (xs := [(.iinc 4 1, 3, 4, 0, .int 1), (.goto (-86), 3, 0, 0, .null)]) (L' := [some (.ref 3), some (.int x1), some (.int x2), some (.int x3), some (.int (x4 + 1)), some (.int q2.1)]) (st' := []) (w' := q5.2) (g := []) (K := []) (by decide +kernel) rfl rfl rfl rfl jk0 ?_
                refine ev_mask [true, true, true, true, true, false] ?_
                exact ih _ _ _ _ _ _ h
              · replace h := jpos c6 h
                refine ev_seg (o := 1) (nL := 6) (q := 85) (xs := [(.iconst 1, 1, 0, 0, .int 1)]) (L' := [some (.ref 3), some (.int x1), some (.int x2), some (.int x3), some (.int x4), some (.int q2.1)]) (st' := [.int 1]) (w' := q5.2) (g := []) (K := []) (by decide +kernel) rfl rfl rfl rfl jk0 ?_
                cases h
                exact ev_zret (by decide +kernel) rfl rfl rfl rfl rfl
def f_Knowing_isQuiet (x1 : Int32) (x2 : Int32) (x3 : Int32) (w : jW) : Option (Int32 × jW) :=
  f_Knowing_isQuiet_h3 jfu x1 x2 x3 0 w
set_option maxRecDepth 20000 in
theorem e_Knowing_isQuiet {l : Launch} {G : jG} (hG : jX G) {x1 : Int32} {x2 : Int32} {x3 : Int32} {w : jW} {z : (Int32 × jW)} (h : f_Knowing_isQuiet x1 x2 x3 w = some z) : Ct l G y_Knowing_isQuiet d_Knowing_isQuiet 0 0 [.ref 3, .int x1, .int x2, .int x3] jR0 w (some (.int z.1), jR0, z.2) := by
  rw [f_Knowing_isQuiet] at h
  refine Ct.of (L := [some (.ref 3), some (.int x1), some (.int x2), some (.int x3), none, none]) (by decide) (Nat.le_of_ble_eq_true rfl) rfl ?_
  refine ev_seg (o := 1) (nL := 6) (q := 3) (xs := [(.iconst 0, 1, 0, 0, .int 0), (.istore 4, 2, 4, 0, .null)]) (L' := [some (.ref 3), some (.int x1), some (.int x2), some (.int x3), some (.int 0), none]) (st' := []) (w' := w) (g := []) (K := []) (by decide +kernel) rfl rfl rfl rfl jk0 ?_
  refine ev_mask [true, true, true, true, true, false] ?_
  exact t_Knowing_isQuiet_h3 hG jfu _ _ _ _ _ _ h
def f_Knowing_fits (x1 : Int32) (x2 : Int32) (w : jW) : Option (Int32 × jW) :=
  Option.bind (f_Rows_at 10 x1 1 w) fun q1 =>
  Option.bind (f_Rows_at 10 x1 2 q1.2) fun q2 =>
  Option.bind (f_Rows_at 4 x2 0 q2.2) fun q3 =>
  if (q1.1 + (q2.2.1 3 1)) < q3.1 then
    some (0, q3.2)
  else
    Option.bind (f_Rows_at 4 x2 1 q3.2) fun q4 =>
    if (q1.1 - (q3.2.1 3 1)) ≤ q4.1 then
      Option.bind (f_Rows_at 4 x2 2 q4.2) fun q5 =>
      if (q2.1 + (q4.2.1 3 2)) < q5.1 then
        some (0, q5.2)
      else
        Option.bind (f_Rows_at 4 x2 3 q5.2) fun q6 =>
        if (q2.1 - (q5.2.1 3 2)) ≤ q6.1 then
          some (1, q6.2)
        else
          some (0, q6.2)
    else
      some (0, q4.2)
set_option maxRecDepth 20000 in
theorem e_Knowing_fits {l : Launch} {G : jG} (hG : jX G) {x1 : Int32} {x2 : Int32} {w : jW} {z : (Int32 × jW)} (h : f_Knowing_fits x1 x2 w = some z) : Ct l G y_Knowing_fits d_Knowing_fits 0 0 [.ref 3, .int x1, .int x2] jR0 w (some (.int z.1), jR0, z.2) := by
  rw [f_Knowing_fits] at h
  refine Ct.of (L := [some (.ref 3), some (.int x1), some (.int x2), none, none]) (by decide) (Nat.le_of_ble_eq_true rfl) rfl ?_
  refine ev_seg (o := 1) (nL := 5) (q := 6) (xs := [(.aload_n 0, 1, 0, 0, .null), (.getfield 35, 3, 6, 8, .ref 3), (.iload_n 1, 1, 1, 0, .null), (.iconst 1, 1, 0, 0, .int 1)]) (L' := [some (.ref 3), some (.int x1), some (.int x2), none, none]) (st' := [.int 1, .int x1, .ref 10]) (w' := w) (g := []) (K := [(10, 3), (3, 6)]) (by decide +kernel) rfl rfl rfl rfl (jk1 kz_10 (jk1 kz_3 jk0)) ?_
  obtain ⟨q1, hq1, h⟩ := jbe h
  refine ev_callV (ci := 3) (a := 10) (y2 := y_Rows_at) (o := 1) (idx := 31) (d2 := d_Rows_at) (n := 2) (mc2 := 0) (ms2 := 0) (As := [.int x1, .int 1]) (st := []) (res2 := (some (.int q1.1), jR0, q1.2)) (by decide +kernel) rfl lk_1_31 mo_Rows_at mv_Rows_at ⟨Nat.le_of_ble_eq_true rfl, Nat.le_of_ble_eq_true rfl⟩ rfl rfl kz_10 (by decide) rfl (Nat.le_of_ble_eq_true rfl) ⟨Nat.le_refl _, Nat.le_refl _⟩ hG (e_Rows_at hG kz_10 hq1) ?_
  refine ev_seg (o := 1) (nL := 5) (q := 16) (xs := [(.istore_n 3, 1, 3, 0, .null), (.aload_n 0, 1, 0, 0, .null), (.getfield 35, 3, 6, 8, .ref 3), (.iload_n 1, 1, 1, 0, .null), (.iconst 2, 1, 0, 0, .int 2)]) (L' := [some (.ref 3), some (.int x1), some (.int x2), some (.int q1.1), none]) (st' := [.int 2, .int x1, .ref 10]) (w' := q1.2) (g := []) (K := [(10, 3), (3, 6)]) (by decide +kernel) rfl rfl rfl rfl (jk1 kz_10 (jk1 kz_3 jk0)) ?_
  obtain ⟨q2, hq2, h⟩ := jbe h
  refine ev_callV (ci := 3) (a := 10) (y2 := y_Rows_at) (o := 1) (idx := 31) (d2 := d_Rows_at) (n := 2) (mc2 := 0) (ms2 := 0) (As := [.int x1, .int 2]) (st := []) (res2 := (some (.int q2.1), jR0, q2.2)) (by decide +kernel) rfl lk_1_31 mo_Rows_at mv_Rows_at ⟨Nat.le_of_ble_eq_true rfl, Nat.le_of_ble_eq_true rfl⟩ rfl rfl kz_10 (by decide) rfl (Nat.le_of_ble_eq_true rfl) ⟨Nat.le_refl _, Nat.le_refl _⟩ hG (e_Rows_at hG kz_10 hq2) ?_
  refine ev_seg (o := 1) (nL := 5) (q := 33) (xs := [(.istore 4, 2, 4, 0, .null), (.iload_n 3, 1, 3, 0, .null), (.aload_n 0, 1, 0, 0, .null), (.getfield 87, 3, 6, 1, .int 0), (.iadd, 1, 0, 0, .null), (.aload_n 0, 1, 0, 0, .null), (.getfield 91, 3, 6, 5, .ref 3), (.iload_n 2, 1, 2, 0, .null), (.iconst 0, 1, 0, 0, .int 0)]) (L' := [some (.ref 3), some (.int x1), some (.int x2), some (.int q1.1), some (.int q2.1)]) (st' := [.int 0, .int x2, .ref 4, .int (q1.1 + (q2.2.1 3 1))]) (w' := q2.2) (g := []) (K := [(4, 3), (3, 6), (3, 6)]) (by decide +kernel) rfl rfl rfl rfl (jk1 kz_4 (jk1 kz_3 (jk1 kz_3 jk0))) ?_
  obtain ⟨q3, hq3, h⟩ := jbe h
  refine ev_callV (ci := 3) (a := 4) (y2 := y_Rows_at) (o := 1) (idx := 31) (d2 := d_Rows_at) (n := 2) (mc2 := 0) (ms2 := 0) (As := [.int x2, .int 0]) (st := [.int (q1.1 + (q2.2.1 3 1))]) (res2 := (some (.int q3.1), jR0, q3.2)) (by decide +kernel) rfl lk_1_31 mo_Rows_at mv_Rows_at ⟨Nat.le_of_ble_eq_true rfl, Nat.le_of_ble_eq_true rfl⟩ rfl rfl kz_4 (by decide) rfl (Nat.le_of_ble_eq_true rfl) ⟨Nat.le_refl _, Nat.le_refl _⟩ hG (e_Rows_at hG kz_4 hq3) ?_
  refine ev_icmp_lt (off := 63) (tgt := 99) (by decide +kernel) (by decide) (fun c10 => ?_) (fun c10 => ?_)
  · replace h := jpos c10 h
    refine ev_seg (o := 1) (nL := 5) (q := 100) (xs := [(.iconst 0, 1, 0, 0, .int 0)]) (L' := [some (.ref 3), some (.int x1), some (.int x2), some (.int q1.1), some (.int q2.1)]) (st' := [.int 0]) (w' := q3.2) (g := []) (K := []) (by decide +kernel) rfl rfl rfl rfl jk0 ?_
    cases h
    exact ev_zret (by decide +kernel) rfl rfl rfl rfl rfl
  · replace h := jneg c10 h
    refine ev_seg (o := 1) (nL := 5) (q := 51) (xs := [(.iload_n 3, 1, 3, 0, .null), (.aload_n 0, 1, 0, 0, .null), (.getfield 87, 3, 6, 1, .int 0), (.isub, 1, 0, 0, .null), (.aload_n 0, 1, 0, 0, .null), (.getfield 91, 3, 6, 5, .ref 3), (.iload_n 2, 1, 2, 0, .null), (.iconst 1, 1, 0, 0, .int 1)]) (L' := [some (.ref 3), some (.int x1), some (.int x2), some (.int q1.1), some (.int q2.1)]) (st' := [.int 1, .int x2, .ref 4, .int (q1.1 - (q3.2.1 3 1))]) (w' := q3.2) (g := []) (K := [(4, 3), (3, 6), (3, 6)]) (by decide +kernel) rfl rfl rfl rfl (jk1 kz_4 (jk1 kz_3 (jk1 kz_3 jk0))) ?_
    obtain ⟨q4, hq4, h⟩ := jbe h
    refine ev_callV (ci := 3) (a := 4) (y2 := y_Rows_at) (o := 1) (idx := 31) (d2 := d_Rows_at) (n := 2) (mc2 := 0) (ms2 := 0) (As := [.int x2, .int 1]) (st := [.int (q1.1 - (q3.2.1 3 1))]) (res2 := (some (.int q4.1), jR0, q4.2)) (by decide +kernel) rfl lk_1_31 mo_Rows_at mv_Rows_at ⟨Nat.le_of_ble_eq_true rfl, Nat.le_of_ble_eq_true rfl⟩ rfl rfl kz_4 (by decide) rfl (Nat.le_of_ble_eq_true rfl) ⟨Nat.le_refl _, Nat.le_refl _⟩ hG (e_Rows_at hG kz_4 hq4) ?_
    refine ev_icmp_gt (off := 45) (tgt := 99) (by decide +kernel) (by decide) (fun c9 => ?_) (fun c9 => ?_)
    · replace h := jneg c9 h
      refine ev_seg (o := 1) (nL := 5) (q := 100) (xs := [(.iconst 0, 1, 0, 0, .int 0)]) (L' := [some (.ref 3), some (.int x1), some (.int x2), some (.int q1.1), some (.int q2.1)]) (st' := [.int 0]) (w' := q4.2) (g := []) (K := []) (by decide +kernel) rfl rfl rfl rfl jk0 ?_
      cases h
      exact ev_zret (by decide +kernel) rfl rfl rfl rfl rfl
    · replace h := jpos c9 h
      refine ev_seg (o := 1) (nL := 5) (q := 70) (xs := [(.iload 4, 2, 4, 0, .null), (.aload_n 0, 1, 0, 0, .null), (.getfield 94, 3, 6, 2, .int 0), (.iadd, 1, 0, 0, .null), (.aload_n 0, 1, 0, 0, .null), (.getfield 91, 3, 6, 5, .ref 3), (.iload_n 2, 1, 2, 0, .null), (.iconst 2, 1, 0, 0, .int 2)]) (L' := [some (.ref 3), some (.int x1), some (.int x2), some (.int q1.1), some (.int q2.1)]) (st' := [.int 2, .int x2, .ref 4, .int (q2.1 + (q4.2.1 3 2))]) (w' := q4.2) (g := []) (K := [(4, 3), (3, 6), (3, 6)]) (by decide +kernel) rfl rfl rfl rfl (jk1 kz_4 (jk1 kz_3 (jk1 kz_3 jk0))) ?_
      obtain ⟨q5, hq5, h⟩ := jbe h
      refine ev_callV (ci := 3) (a := 4) (y2 := y_Rows_at) (o := 1) (idx := 31) (d2 := d_Rows_at) (n := 2) (mc2 := 0) (ms2 := 0) (As := [.int x2, .int 2]) (st := [.int (q2.1 + (q4.2.1 3 2))]) (res2 := (some (.int q5.1), jR0, q5.2)) (by decide +kernel) rfl lk_1_31 mo_Rows_at mv_Rows_at ⟨Nat.le_of_ble_eq_true rfl, Nat.le_of_ble_eq_true rfl⟩ rfl rfl kz_4 (by decide) rfl (Nat.le_of_ble_eq_true rfl) ⟨Nat.le_refl _, Nat.le_refl _⟩ hG (e_Rows_at hG kz_4 hq5) ?_
      refine ev_icmp_lt (off := 26) (tgt := 99) (by decide +kernel) (by decide) (fun c8 => ?_) (fun c8 => ?_)
      · replace h := jpos c8 h
        refine ev_seg (o := 1) (nL := 5) (q := 100) (xs := [(.iconst 0, 1, 0, 0, .int 0)]) (L' := [some (.ref 3), some (.int x1), some (.int x2), some (.int q1.1), some (.int q2.1)]) (st' := [.int 0]) (w' := q5.2) (g := []) (K := []) (by decide +kernel) rfl rfl rfl rfl jk0 ?_
        cases h
        exact ev_zret (by decide +kernel) rfl rfl rfl rfl rfl
      · replace h := jneg c8 h
        refine ev_seg (o := 1) (nL := 5) (q := 89) (xs := [(.iload 4, 2, 4, 0, .null), (.aload_n 0, 1, 0, 0, .null), (.getfield 94, 3, 6, 2, .int 0), (.isub, 1, 0, 0, .null), (.aload_n 0, 1, 0, 0, .null), (.getfield 91, 3, 6, 5, .ref 3), (.iload_n 2, 1, 2, 0, .null), (.iconst 3, 1, 0, 0, .int 3)]) (L' := [some (.ref 3), some (.int x1), some (.int x2), some (.int q1.1), some (.int q2.1)]) (st' := [.int 3, .int x2, .ref 4, .int (q2.1 - (q5.2.1 3 2))]) (w' := q5.2) (g := []) (K := [(4, 3), (3, 6), (3, 6)]) (by decide +kernel) rfl rfl rfl rfl (jk1 kz_4 (jk1 kz_3 (jk1 kz_3 jk0))) ?_
        obtain ⟨q6, hq6, h⟩ := jbe h
        refine ev_callV (ci := 3) (a := 4) (y2 := y_Rows_at) (o := 1) (idx := 31) (d2 := d_Rows_at) (n := 2) (mc2 := 0) (ms2 := 0) (As := [.int x2, .int 3]) (st := [.int (q2.1 - (q5.2.1 3 2))]) (res2 := (some (.int q6.1), jR0, q6.2)) (by decide +kernel) rfl lk_1_31 mo_Rows_at mv_Rows_at ⟨Nat.le_of_ble_eq_true rfl, Nat.le_of_ble_eq_true rfl⟩ rfl rfl kz_4 (by decide) rfl (Nat.le_of_ble_eq_true rfl) ⟨Nat.le_refl _, Nat.le_refl _⟩ hG (e_Rows_at hG kz_4 hq6) ?_
        refine ev_icmp_gt (off := 7) (tgt := 99) (by decide +kernel) (by decide) (fun c7 => ?_) (fun c7 => ?_)
        · replace h := jneg c7 h
          refine ev_seg (o := 1) (nL := 5) (q := 100) (xs := [(.iconst 0, 1, 0, 0, .int 0)]) (L' := [some (.ref 3), some (.int x1), some (.int x2), some (.int q1.1), some (.int q2.1)]) (st' := [.int 0]) (w' := q6.2) (g := []) (K := []) (by decide +kernel) rfl rfl rfl rfl jk0 ?_
          cases h
          exact ev_zret (by decide +kernel) rfl rfl rfl rfl rfl
        · replace h := jpos c7 h
          refine ev_seg (o := 1) (nL := 5) (q := 100) (xs := [(.iconst 1, 1, 0, 0, .int 1), (.goto 4, 3, 0, 0, .null)]) (L' := [some (.ref 3), some (.int x1), some (.int x2), some (.int q1.1), some (.int q2.1)]) (st' := [.int 1]) (w' := q6.2) (g := []) (K := []) (by decide +kernel) rfl rfl rfl rfl jk0 ?_
          cases h
          exact ev_zret (by decide +kernel) rfl rfl rfl rfl rfl
def f_Knowing_passPortal_j94 (k45 : Int32 → Int32 → Int32 → Int32 → jW → Option jW) (x2 : Int32) (x3 : Int32) (x4 : Int32) (x5 : Int32) (s0 : Int64) (w : jW) : Option jW :=
  if x4 = 1 then
    if jal [jin x5 4] = true then
    jlw (w.1, (jup w.2 84 (Int32.toNatClampNeg x5) s0)) fun w6 =>
    k45 x2 x3 x4 (x5 + 1) w6
    else none
  else
    if jal [jin x5 4, jin x5 4] = true then
    jlw (w.1, (jup w.2 84 (Int32.toNatClampNeg x5) ((w.2 84 (Int32.toNatClampNeg x5)) ||| s0))) fun w4 =>
    k45 x2 x3 x4 (x5 + 1) w4
    else none
set_option maxRecDepth 20000 in
theorem t_Knowing_passPortal_j94 {l : Launch} {G : jG} (hG : jX G) {k45 : Int32 → Int32 → Int32 → Int32 → jW → Option jW} (hk45 : ∀ (x2 : Int32) (x3 : Int32) (x4 : Int32) (x5 : Int32) (w : jW) (z : jW), k45 x2 x3 x4 x5 w = some z → Ev l G (jrm d_Knowing_passPortal 0 0) y_Knowing_passPortal (none, jR0, z) 0 0 0 0 45 [some (.ref 83), some (.ref 3), some (.int x2), some (.int x3), some (.int x4), some (.int x5), none, none] [] jR0 w) {x2 : Int32} {x3 : Int32} {x4 : Int32} {x5 : Int32} {s0 : Int64} {w : jW} {z : jW} (h : f_Knowing_passPortal_j94 k45 x2 x3 x4 x5 s0 w = some z) : Ev l G (jrm d_Knowing_passPortal 0 0) y_Knowing_passPortal (none, jR0, z) 0 0 0 0 94 [some (.ref 83), some (.ref 3), some (.int x2), some (.int x3), some (.int x4), some (.int x5), none, none] [.long s0] jR0 w := by
  rw [f_Knowing_passPortal_j94] at h
  refine ev_seg (o := 1) (nL := 8) (q := 105) (xs := [(.lstore 6, 2, 6, 0, .null), (.aload_n 0, 1, 0, 0, .null), (.getfield 9, 3, 1, 0, .ref 22), (.iload 5, 2, 5, 0, .null), (.iload 4, 2, 4, 0, .null), (.iconst 1, 1, 0, 0, .int 1)]) (L' := [some (.ref 83), some (.ref 3), some (.int x2), some (.int x3), some (.int x4), some (.int x5), some (.long s0), none]) (st' := [.int 1, .int x4, .int x5, .ref 84]) (w' := w) (g := []) (K := [(84, 22), (83, 1)]) (by decide +kernel) rfl rfl rfl rfl (jk1 kz_84 (jk1 kz_83 jk0)) ?_
  refine ev_icmp_ne (off := 8) (tgt := 113) (by decide +kernel) (by decide) (fun c7 => ?_) (fun c7 => ?_)
  · replace h := jneg c7 h
    obtain ⟨hg3, h⟩ := jgd h
    refine ev_seg (o := 1) (nL := 8) (q := 124) (xs := [(.aload_n 0, 1, 0, 0, .null), (.getfield 9, 3, 1, 0, .ref 22), (.iload 5, 2, 5, 0, .null), (.laload, 1, 0, 0, .null), (.lload 6, 2, 6, 0, .null), (.lor, 1, 0, 0, .null), (.lastore, 1, 0, 0, .null)]) (L' := [some (.ref 83), some (.ref 3), some (.int x2), some (.int x3), some (.int x4), some (.int x5), some (.long s0), none]) (st' := []) (w' := (w.1, (jup w.2 84 (Int32.toNatClampNeg x5) ((w.2 84 (Int32.toNatClampNeg x5)) ||| s0)))) (g := [jin x5 4, jin x5 4]) (K := [(84, 22), (84, 22), (84, 22), (83, 1)]) (by decide +kernel) rfl rfl rfl hg3 (jk1 kz_84 (jk1 kz_84 (jk1 kz_84 (jk1 kz_83 jk0)))) ?_
    refine jlw_c (P := fun w4 => Ev l G (jrm d_Knowing_passPortal 0 0) y_Knowing_passPortal (none, jR0, z) 0 0 0 0 124 [some (.ref 83), some (.ref 3), some (.int x2), some (.int x3), some (.int x4), some (.int x5), some (.long s0), none] [] jR0 w4) h fun w4 h => ?_
    refine ev_seg (o := 1) (nL := 8) (q := 45) (xs := [(.iinc 5 1, 3, 5, 0, .int 1), (.goto (-82), 3, 0, 0, .null)]) (L' := [some (.ref 83), some (.ref 3), some (.int x2), some (.int x3), some (.int x4), some (.int (x5 + 1)), some (.long s0), none]) (st' := []) (w' := w4) (g := []) (K := []) (by decide +kernel) rfl rfl rfl rfl jk0 ?_
    refine ev_mask [true, true, true, true, true, true, false, false] ?_
    exact hk45 _ _ _ _ _ _ h
  · replace h := jpos c7 h
    obtain ⟨hg5, h⟩ := jgd h
    refine ev_seg (o := 1) (nL := 8) (q := 124) (xs := [(.lload 6, 2, 6, 0, .null), (.goto 13, 3, 0, 0, .null), (.lastore, 1, 0, 0, .null)]) (L' := [some (.ref 83), some (.ref 3), some (.int x2), some (.int x3), some (.int x4), some (.int x5), some (.long s0), none]) (st' := []) (w' := (w.1, (jup w.2 84 (Int32.toNatClampNeg x5) s0))) (g := [jin x5 4]) (K := [(84, 22)]) (by decide +kernel) rfl rfl rfl hg5 (jk1 kz_84 jk0) ?_
    refine jlw_c (P := fun w6 => Ev l G (jrm d_Knowing_passPortal 0 0) y_Knowing_passPortal (none, jR0, z) 0 0 0 0 124 [some (.ref 83), some (.ref 3), some (.int x2), some (.int x3), some (.int x4), some (.int x5), some (.long s0), none] [] jR0 w6) h fun w6 h => ?_
    refine ev_seg (o := 1) (nL := 8) (q := 45) (xs := [(.iinc 5 1, 3, 5, 0, .int 1), (.goto (-82), 3, 0, 0, .null)]) (L' := [some (.ref 83), some (.ref 3), some (.int x2), some (.int x3), some (.int x4), some (.int (x5 + 1)), some (.long s0), none]) (st' := []) (w' := w6) (g := []) (K := []) (by decide +kernel) rfl rfl rfl rfl jk0 ?_
    refine ev_mask [true, true, true, true, true, true, false, false] ?_
    exact hk45 _ _ _ _ _ _ h
def f_Knowing_passPortal_h45 : Nat → Int32 → Int32 → Int32 → Int32 → jW → Option jW
  | 0, _, _, _, _, _ => none
  | n + 1, x2, x3, x4, x5, w =>
  if x5 < (Int32.ofNat 4) then
    Option.bind (f_Knowing_fits x2 x5 w) fun q1 =>
    if q1.1 = 0 then
      (f_Knowing_passPortal_h45 n) x2 x3 x4 (x5 + 1) q1.2
    else
      if x3 = 0 then
        if jal [jin x5 4] = true then
        f_Knowing_passPortal_j94 (f_Knowing_passPortal_h45 n) x2 x3 x4 x5 (((q1.2.2 84 (Int32.toNatClampNeg x5)) <<< (Int32.toInt64 1 &&& 63)) &&& 2199023255551) q1.2
        else none
      else
        if jal [jin x5 4] = true then
        f_Knowing_passPortal_j94 (f_Knowing_passPortal_h45 n) x2 x3 x4 x5 ((q1.2.2 84 (Int32.toNatClampNeg x5)) >>> (Int32.toInt64 1 &&& 63)) q1.2
        else none
  else
    some w
set_option maxRecDepth 20000 in
theorem t_Knowing_passPortal_h45 {l : Launch} {G : jG} (hG : jX G) : ∀ (n : Nat) (x2 : Int32) (x3 : Int32) (x4 : Int32) (x5 : Int32) (w : jW) (z : jW), f_Knowing_passPortal_h45 n x2 x3 x4 x5 w = some z → Ev l G (jrm d_Knowing_passPortal 0 0) y_Knowing_passPortal (none, jR0, z) 0 0 0 0 45 [some (.ref 83), some (.ref 3), some (.int x2), some (.int x3), some (.int x4), some (.int x5), none, none] [] jR0 w := by
  intro n
  induction n with
  | zero => intro x2 x3 x4 x5 w z h; simp only [f_Knowing_passPortal_h45] at h; cases h
  | succ n ih =>
    intro x2 x3 x4 x5 w z h
    rw [f_Knowing_passPortal_h45] at h
    refine ev_seg (o := 1) (nL := 8) (q := 52) (xs := [(.iload 5, 2, 5, 0, .null), (.aload_n 0, 1, 0, 0, .null), (.getfield 9, 3, 1, 0, .ref 22), (.arraylength, 1, 22, 0, .null)]) (L' := [some (.ref 83), some (.ref 3), some (.int x2), some (.int x3), some (.int x4), some (.int x5), none, none]) (st' := [.int (Int32.ofNat 4), .int x5]) (w' := w) (g := []) (K := [(84, 22), (84, 22), (83, 1)]) (by decide +kernel) rfl rfl rfl rfl (jk1 kz_84 (jk1 kz_84 (jk1 kz_83 jk0))) ?_
    refine ev_icmp_ge (off := 78) (tgt := 130) (by decide +kernel) (by decide) (fun c11 => ?_) (fun c11 => ?_)
    · replace h := jneg c11 h
      cases h
      exact ev_vret (by decide +kernel) rfl rfl rfl rfl
    · replace h := jpos c11 h
      refine ev_seg (o := 1) (nL := 8) (q := 59) (xs := [(.aload_n 1, 1, 1, 0, .null), (.iload_n 2, 1, 2, 0, .null), (.iload 5, 2, 5, 0, .null)]) (L' := [some (.ref 83), some (.ref 3), some (.int x2), some (.int x3), some (.int x4), some (.int x5), none, none]) (st' := [.int x5, .int x2, .ref 3]) (w' := w) (g := []) (K := []) (by decide +kernel) rfl rfl rfl rfl jk0 ?_
      obtain ⟨q1, hq1, h⟩ := jbe h
      refine ev_callS (y2 := y_Knowing_fits) (o := 1) (idx := 83) (d2 := d_Knowing_fits) (n := 3) (mc2 := 0) (ms2 := 0) (As := [.ref 3, .int x2, .int x5]) (st := []) (res2 := (some (.int q1.1), jR0, q1.2)) (by decide +kernel) rfl lk_1_83 mo_Knowing_fits ms_Knowing_fits ⟨Nat.le_of_ble_eq_true rfl, Nat.le_of_ble_eq_true rfl⟩ rfl rfl (Nat.le_of_ble_eq_true rfl) ⟨Nat.le_refl _, Nat.le_refl _⟩ hG (e_Knowing_fits hG hq1) ?_
      refine ev_if_eq (off := 62) (tgt := 124) (by decide +kernel) (by decide) (fun c10 => ?_) (fun c10 => ?_)
      · replace h := jpos c10 h
        refine ev_seg (o := 1) (nL := 8) (q := 45) (xs := [(.iinc 5 1, 3, 5, 0, .int 1), (.goto (-82), 3, 0, 0, .null)]) (L' := [some (.ref 83), some (.ref 3), some (.int x2), some (.int x3), some (.int x4), some (.int (x5 + 1)), none, none]) (st' := []) (w' := q1.2) (g := []) (K := []) (by decide +kernel) rfl rfl rfl rfl jk0 ?_
        refine ev_mask [true, true, true, true, true, true, false, false] ?_
        exact ih _ _ _ _ _ _ h
      · replace h := jneg c10 h
        refine ev_seg (o := 1) (nL := 8) (q := 66) (xs := [(.iload_n 3, 1, 3, 0, .null)]) (L' := [some (.ref 83), some (.ref 3), some (.int x2), some (.int x3), some (.int x4), some (.int x5), none, none]) (st' := [.int x3]) (w' := q1.2) (g := []) (K := []) (by decide +kernel) rfl rfl rfl rfl jk0 ?_
        refine ev_if_eq (off := 15) (tgt := 81) (by decide +kernel) (by decide) (fun c9 => ?_) (fun c9 => ?_)
        · replace h := jpos c9 h
          obtain ⟨hg2, h⟩ := jgd h
          refine ev_seg (o := 1) (nL := 8) (q := 94) (xs := [(.aload_n 0, 1, 0, 0, .null), (.getfield 9, 3, 1, 0, .ref 22), (.iload 5, 2, 5, 0, .null), (.laload, 1, 0, 0, .null), (.iconst 1, 1, 0, 0, .int 1), (.lshl, 1, 0, 0, .null), (.ldc2_w 46, 3, 0, 0, .long 2199023255551), (.land, 1, 0, 0, .null)]) (L' := [some (.ref 83), some (.ref 3), some (.int x2), some (.int x3), some (.int x4), some (.int x5), none, none]) (st' := [.long (((q1.2.2 84 (Int32.toNatClampNeg x5)) <<< (Int32.toInt64 1 &&& 63)) &&& 2199023255551)]) (w' := q1.2) (g := [jin x5 4]) (K := [(84, 22), (84, 22), (83, 1)]) (by decide +kernel) rfl rfl rfl hg2 (jk1 kz_84 (jk1 kz_84 (jk1 kz_83 jk0))) ?_
          refine ev_mask [true, true, true, true, true, true, false, false] ?_
          exact t_Knowing_passPortal_j94 hG ih h
        · replace h := jneg c9 h
          obtain ⟨hg8, h⟩ := jgd h
          refine ev_seg (o := 1) (nL := 8) (q := 94) (xs := [(.aload_n 0, 1, 0, 0, .null), (.getfield 9, 3, 1, 0, .ref 22), (.iload 5, 2, 5, 0, .null), (.laload, 1, 0, 0, .null), (.iconst 1, 1, 0, 0, .int 1), (.lshr, 1, 0, 0, .null), (.goto 16, 3, 0, 0, .null)]) (L' := [some (.ref 83), some (.ref 3), some (.int x2), some (.int x3), some (.int x4), some (.int x5), none, none]) (st' := [.long ((q1.2.2 84 (Int32.toNatClampNeg x5)) >>> (Int32.toInt64 1 &&& 63))]) (w' := q1.2) (g := [jin x5 4]) (K := [(84, 22), (84, 22), (83, 1)]) (by decide +kernel) rfl rfl rfl hg8 (jk1 kz_84 (jk1 kz_84 (jk1 kz_83 jk0))) ?_
          refine ev_mask [true, true, true, true, true, true, false, false] ?_
          exact t_Knowing_passPortal_j94 hG ih h
def f_Knowing_passPortal_h6 : Nat → Int32 → Int32 → Int32 → Int32 → jW → Option jW
  | 0, _, _, _, _, _ => none
  | n + 1, x2, x3, x4, x5, w =>
  if x5 < (Int32.ofNat 4) then
    Option.bind (f_Knowing_fits x2 x5 w) fun q12 =>
    if q12.1 = 0 then
      (f_Knowing_passPortal_h6 n) x2 x3 (x4 + 0) (x5 + 1) q12.2
    else
      (f_Knowing_passPortal_h6 n) x2 x3 (x4 + 1) (x5 + 1) q12.2
  else
    f_Knowing_passPortal_h45 jfu x2 x3 x4 0 w
set_option maxRecDepth 20000 in
theorem t_Knowing_passPortal_h6 {l : Launch} {G : jG} (hG : jX G) : ∀ (n : Nat) (x2 : Int32) (x3 : Int32) (x4 : Int32) (x5 : Int32) (w : jW) (z : jW), f_Knowing_passPortal_h6 n x2 x3 x4 x5 w = some z → Ev l G (jrm d_Knowing_passPortal 0 0) y_Knowing_passPortal (none, jR0, z) 0 0 0 0 6 [some (.ref 83), some (.ref 3), some (.int x2), some (.int x3), some (.int x4), some (.int x5), none, none] [] jR0 w := by
  intro n
  induction n with
  | zero => intro x2 x3 x4 x5 w z h; simp only [f_Knowing_passPortal_h6] at h; cases h
  | succ n ih =>
    intro x2 x3 x4 x5 w z h
    rw [f_Knowing_passPortal_h6] at h
    refine ev_seg (o := 1) (nL := 8) (q := 13) (xs := [(.iload 5, 2, 5, 0, .null), (.aload_n 0, 1, 0, 0, .null), (.getfield 9, 3, 1, 0, .ref 22), (.arraylength, 1, 22, 0, .null)]) (L' := [some (.ref 83), some (.ref 3), some (.int x2), some (.int x3), some (.int x4), some (.int x5), none, none]) (st' := [.int (Int32.ofNat 4), .int x5]) (w' := w) (g := []) (K := [(84, 22), (84, 22), (83, 1)]) (by decide +kernel) rfl rfl rfl rfl (jk1 kz_84 (jk1 kz_84 (jk1 kz_83 jk0))) ?_
    refine ev_icmp_ge (off := 29) (tgt := 42) (by decide +kernel) (by decide) (fun c14 => ?_) (fun c14 => ?_)
    · replace h := jneg c14 h
      refine ev_seg (o := 1) (nL := 8) (q := 45) (xs := [(.iconst 0, 1, 0, 0, .int 0), (.istore 5, 2, 5, 0, .null)]) (L' := [some (.ref 83), some (.ref 3), some (.int x2), some (.int x3), some (.int x4), some (.int 0), none, none]) (st' := []) (w' := w) (g := []) (K := []) (by decide +kernel) rfl rfl rfl rfl jk0 ?_
      refine ev_mask [true, true, true, true, true, true, false, false] ?_
      exact t_Knowing_passPortal_h45 hG jfu _ _ _ _ _ _ h
    · replace h := jpos c14 h
      refine ev_seg (o := 1) (nL := 8) (q := 22) (xs := [(.iload 4, 2, 4, 0, .null), (.aload_n 1, 1, 1, 0, .null), (.iload_n 2, 1, 2, 0, .null), (.iload 5, 2, 5, 0, .null)]) (L' := [some (.ref 83), some (.ref 3), some (.int x2), some (.int x3), some (.int x4), some (.int x5), none, none]) (st' := [.int x5, .int x2, .ref 3, .int x4]) (w' := w) (g := []) (K := []) (by decide +kernel) rfl rfl rfl rfl jk0 ?_
      obtain ⟨q12, hq12, h⟩ := jbe h
      refine ev_callS (y2 := y_Knowing_fits) (o := 1) (idx := 83) (d2 := d_Knowing_fits) (n := 3) (mc2 := 0) (ms2 := 0) (As := [.ref 3, .int x2, .int x5]) (st := [.int x4]) (res2 := (some (.int q12.1), jR0, q12.2)) (by decide +kernel) rfl lk_1_83 mo_Knowing_fits ms_Knowing_fits ⟨Nat.le_of_ble_eq_true rfl, Nat.le_of_ble_eq_true rfl⟩ rfl rfl (Nat.le_of_ble_eq_true rfl) ⟨Nat.le_refl _, Nat.le_refl _⟩ hG (e_Knowing_fits hG hq12) ?_
      refine ev_if_eq (off := 7) (tgt := 32) (by decide +kernel) (by decide) (fun c13 => ?_) (fun c13 => ?_)
      · replace h := jpos c13 h
        refine ev_seg (o := 1) (nL := 8) (q := 6) (xs := [(.iconst 0, 1, 0, 0, .int 0), (.iadd, 1, 0, 0, .null), (.istore 4, 2, 4, 0, .null), (.iinc 5 1, 3, 5, 0, .int 1), (.goto (-33), 3, 0, 0, .null)]) (L' := [some (.ref 83), some (.ref 3), some (.int x2), some (.int x3), some (.int (x4 + 0)), some (.int (x5 + 1)), none, none]) (st' := []) (w' := q12.2) (g := []) (K := []) (by decide +kernel) rfl rfl rfl rfl jk0 ?_
        refine ev_mask [true, true, true, true, true, true, false, false] ?_
        exact ih _ _ _ _ _ _ h
      · replace h := jneg c13 h
        refine ev_seg (o := 1) (nL := 8) (q := 6) (xs := [(.iconst 1, 1, 0, 0, .int 1), (.goto 4, 3, 0, 0, .null), (.iadd, 1, 0, 0, .null), (.istore 4, 2, 4, 0, .null), (.iinc 5 1, 3, 5, 0, .int 1), (.goto (-33), 3, 0, 0, .null)]) (L' := [some (.ref 83), some (.ref 3), some (.int x2), some (.int x3), some (.int (x4 + 1)), some (.int (x5 + 1)), none, none]) (st' := []) (w' := q12.2) (g := []) (K := []) (by decide +kernel) rfl rfl rfl rfl jk0 ?_
        refine ev_mask [true, true, true, true, true, true, false, false] ?_
        exact ih _ _ _ _ _ _ h
def f_Knowing_passPortal (x2 : Int32) (x3 : Int32) (w : jW) : Option jW :=
  f_Knowing_passPortal_h6 jfu x2 x3 0 0 w
set_option maxRecDepth 20000 in
theorem e_Knowing_passPortal {l : Launch} {G : jG} (hG : jX G) {x2 : Int32} {x3 : Int32} {w : jW} {z : jW} (h : f_Knowing_passPortal x2 x3 w = some z) : Ct l G y_Knowing_passPortal d_Knowing_passPortal 0 0 [.ref 83, .ref 3, .int x2, .int x3] jR0 w (none, jR0, z) := by
  rw [f_Knowing_passPortal] at h
  refine Ct.of (L := [some (.ref 83), some (.ref 3), some (.int x2), some (.int x3), none, none, none, none]) (by decide) (Nat.le_of_ble_eq_true rfl) rfl ?_
  refine ev_seg (o := 1) (nL := 8) (q := 6) (xs := [(.iconst 0, 1, 0, 0, .int 0), (.istore 4, 2, 4, 0, .null), (.iconst 0, 1, 0, 0, .int 0), (.istore 5, 2, 5, 0, .null)]) (L' := [some (.ref 83), some (.ref 3), some (.int x2), some (.int x3), some (.int 0), some (.int 0), none, none]) (st' := []) (w' := w) (g := []) (K := []) (by decide +kernel) rfl rfl rfl rfl jk0 ?_
  refine ev_mask [true, true, true, true, true, true, false, false] ?_
  exact t_Knowing_passPortal_h6 hG jfu _ _ _ _ _ _ h

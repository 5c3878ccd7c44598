def f_Model_judged (x1 : Int32) (x2 : Int32) (w : jW) : Option (Int32 × jW) :=
  if jal [jin 11 21000] = true then
  Option.bind (f_Model_isIn x1 0 ((w.1 94 (Int32.toNatClampNeg 11)) - 1) w) fun q2 =>
  if q2.1 = 0 then
    some ((-1), q2.2)
  else
    if jal [jin ((13080 + (8 * x1)) + 1) 21000] = true then
    Option.bind (f_Model_isIn x2 (q2.2.1 94 (Int32.toNatClampNeg ((13080 + (8 * x1)) + 1))) 1999 q2.2) fun q4 =>
    if q4.1 = 0 then
      some ((-1), q4.2)
    else
      Option.bind (f_Model_judgedOf x1 x2 q4.2) fun q5 =>
      some (q5.1, q5.2)
    else none
  else none
set_option maxRecDepth 20000 in
theorem e_Model_judged {l : Launch} {G : jG} (hG : jX G) {x1 : Int32} {x2 : Int32} {w : jW} {z : (Int32 × jW)} (h : f_Model_judged x1 x2 w = some z) : Ct l G y_Model_judged d_Model_judged 0 0 [.ref 93, .int x1, .int x2] jR0 w (some (.int z.1), jR0, z.2) := by
  rw [f_Model_judged] at h
  refine Ct.of (L := [some (.ref 93), some (.int x1), some (.int x2)]) (by decide) (Nat.le_of_ble_eq_true rfl) rfl ?_
  obtain ⟨hg1, h⟩ := jgd h
  refine ev_seg (o := 10) (nL := 3) (q := 11) (xs := [(.iload_n 1, 1, 1, 0, .null), (.iconst 0, 1, 0, 0, .int 0), (.aload_n 0, 1, 0, 0, .null), (.getfield 7, 3, 10, 0, .ref 20), (.bipush 11, 2, 0, 0, .int 11), (.iaload, 1, 0, 0, .null), (.iconst 1, 1, 0, 0, .int 1), (.isub, 1, 0, 0, .null)]) (L' := [some (.ref 93), some (.int x1), some (.int x2)]) (st' := [.int ((w.1 94 (Int32.toNatClampNeg 11)) - 1), .int 0, .int x1]) (w' := w) (g := [jin 11 21000]) (K := [(94, 20), (94, 20), (93, 10)]) (by decide +kernel) rfl rfl rfl hg1 (jk1 kz_94 (jk1 kz_94 (jk1 kz_93 jk0))) ?_
  obtain ⟨q2, hq2, h⟩ := jbe h
  refine ev_callS (y2 := y_Model_isIn) (o := 10) (idx := 46) (d2 := d_Model_isIn) (n := 3) (mc2 := 0) (ms2 := 0) (As := [.int x1, .int 0, .int ((w.1 94 (Int32.toNatClampNeg 11)) - 1)]) (st := []) (res2 := (some (.int q2.1), jR0, q2.2)) (by decide +kernel) rfl lk_10_46 mo_Model_isIn ms_Model_isIn ⟨Nat.le_of_ble_eq_true rfl, Nat.le_of_ble_eq_true rfl⟩ rfl rfl (Nat.le_of_ble_eq_true rfl) ⟨Nat.le_refl _, Nat.le_refl _⟩ hG (e_Model_isIn hG hq2) ?_
  refine ev_if_eq (off := 37) (tgt := 51) (by decide +kernel) (by decide) (fun c7 => ?_) (fun c7 => ?_)
  · replace h := jpos c7 h
    refine ev_seg (o := 10) (nL := 3) (q := 52) (xs := [(.iconst (-1), 1, 0, 0, .int (-1))]) (L' := [some (.ref 93), some (.int x1), some (.int x2)]) (st' := [.int (-1)]) (w' := q2.2) (g := []) (K := []) (by decide +kernel) rfl rfl rfl rfl jk0 ?_
    cases h
    exact ev_iret (by decide +kernel) rfl rfl rfl rfl
  · replace h := jneg c7 h
    obtain ⟨hg3, h⟩ := jgd h
    refine ev_seg (o := 10) (nL := 3) (q := 36) (xs := [(.iload_n 2, 1, 2, 0, .null), (.aload_n 0, 1, 0, 0, .null), (.getfield 7, 3, 10, 0, .ref 20), (.sipush 13080, 3, 0, 0, .int 13080), (.bipush 8, 2, 0, 0, .int 8), (.iload_n 1, 1, 1, 0, .null), (.imul, 1, 0, 0, .null), (.iadd, 1, 0, 0, .null), (.iconst 1, 1, 0, 0, .int 1), (.iadd, 1, 0, 0, .null), (.iaload, 1, 0, 0, .null), (.sipush 1999, 3, 0, 0, .int 1999)]) (L' := [some (.ref 93), some (.int x1), some (.int x2)]) (st' := [.int 1999, .int (q2.2.1 94 (Int32.toNatClampNeg ((13080 + (8 * x1)) + 1))), .int x2]) (w' := q2.2) (g := [jin ((13080 + (8 * x1)) + 1) 21000]) (K := [(94, 20), (94, 20), (93, 10)]) (by decide +kernel) rfl rfl rfl hg3 (jk1 kz_94 (jk1 kz_94 (jk1 kz_93 jk0))) ?_
    obtain ⟨q4, hq4, h⟩ := jbe h
    refine ev_callS (y2 := y_Model_isIn) (o := 10) (idx := 46) (d2 := d_Model_isIn) (n := 3) (mc2 := 0) (ms2 := 0) (As := [.int x2, .int (q2.2.1 94 (Int32.toNatClampNeg ((13080 + (8 * x1)) + 1))), .int 1999]) (st := []) (res2 := (some (.int q4.1), jR0, q4.2)) (by decide +kernel) rfl lk_10_46 mo_Model_isIn ms_Model_isIn ⟨Nat.le_of_ble_eq_true rfl, Nat.le_of_ble_eq_true rfl⟩ rfl rfl (Nat.le_of_ble_eq_true rfl) ⟨Nat.le_refl _, Nat.le_refl _⟩ hG (e_Model_isIn hG hq4) ?_
    refine ev_if_eq (off := 12) (tgt := 51) (by decide +kernel) (by decide) (fun c6 => ?_) (fun c6 => ?_)
    · replace h := jpos c6 h
      refine ev_seg (o := 10) (nL := 3) (q := 52) (xs := [(.iconst (-1), 1, 0, 0, .int (-1))]) (L' := [some (.ref 93), some (.int x1), some (.int x2)]) (st' := [.int (-1)]) (w' := q4.2) (g := []) (K := []) (by decide +kernel) rfl rfl rfl rfl jk0 ?_
      cases h
      exact ev_iret (by decide +kernel) rfl rfl rfl rfl
    · replace h := jneg c6 h
      refine ev_seg (o := 10) (nL := 3) (q := 45) (xs := [(.aload_n 0, 1, 0, 0, .null), (.iload_n 1, 1, 1, 0, .null), (.iload_n 2, 1, 2, 0, .null)]) (L' := [some (.ref 93), some (.int x1), some (.int x2)]) (st' := [.int x2, .int x1, .ref 93]) (w' := q4.2) (g := []) (K := []) (by decide +kernel) rfl rfl rfl rfl jk0 ?_
      obtain ⟨q5, hq5, h⟩ := jbe h
      refine ev_callV (ci := 10) (a := 93) (y2 := y_Model_judgedOf) (o := 10) (idx := 319) (d2 := d_Model_judgedOf) (n := 2) (mc2 := 0) (ms2 := 0) (As := [.int x1, .int x2]) (st := []) (res2 := (some (.int q5.1), jR0, q5.2)) (by decide +kernel) rfl lk_10_319 mo_Model_judgedOf mv_Model_judgedOf ⟨Nat.le_of_ble_eq_true rfl, Nat.le_of_ble_eq_true rfl⟩ rfl rfl kz_93 (by decide) rfl (Nat.le_of_ble_eq_true rfl) ⟨Nat.le_refl _, Nat.le_refl _⟩ hG (e_Model_judgedOf hG hq5) ?_
      refine ev_seg (o := 10) (nL := 3) (q := 52) (xs := [(.goto 4, 3, 0, 0, .null)]) (L' := [some (.ref 93), some (.int x1), some (.int x2)]) (st' := [.int q5.1]) (w' := q5.2) (g := []) (K := []) (by decide +kernel) rfl rfl rfl rfl jk0 ?_
      cases h
      exact ev_iret (by decide +kernel) rfl rfl rfl rfl
def f_Model_fails_h29 : Nat → Int32 → Int32 → Int32 → Int32 → jW → Option (Int32 × jW)
  | 0, _, _, _, _, _ => none
  | n + 1, x1, x2, x4, x5, w =>
  if jal [jin 11 21000] = true then
  if x5 < (w.1 94 (Int32.toNatClampNeg 11)) then
    if jal [jin ((13080 + (8 * x5)) + 1) 21000] = true then
    if (w.1 94 (Int32.toNatClampNeg ((13080 + (8 * x5)) + 1))) ≤ x2 then
      Option.bind (f_Model_judgedOf x5 x2 w) fun q5 =>
      if q5.1 = x1 then
        if x4 = 0 then
          some (x5, q5.2)
        else
          (f_Model_fails_h29 n) x1 x2 (x4 + (-1)) (x5 + 1) q5.2
      else
        (f_Model_fails_h29 n) x1 x2 x4 (x5 + 1) q5.2
    else
      (f_Model_fails_h29 n) x1 x2 x4 (x5 + 1) w
    else none
  else
    some ((-1), w)
  else none
set_option maxRecDepth 20000 in
theorem t_Model_fails_h29 {l : Launch} {G : jG} (hG : jX G) : ∀ (n : Nat) (x1 : Int32) (x2 : Int32) (x4 : Int32) (x5 : Int32) (w : jW) (z : (Int32 × jW)), f_Model_fails_h29 n x1 x2 x4 x5 w = some z → Ev l G (jrm d_Model_fails 0 0) y_Model_fails (some (.int z.1), jR0, z.2) 0 0 0 0 29 [some (.ref 93), some (.int x1), some (.int x2), none, some (.int x4), some (.int x5)] [] jR0 w := by
  intro n
  induction n with
  | zero => intro x1 x2 x4 x5 w z h; simp only [f_Model_fails_h29] at h; cases h
  | succ n ih =>
    intro x1 x2 x4 x5 w z h
    rw [f_Model_fails_h29] at h
    obtain ⟨hg3, h⟩ := jgd h
    refine ev_seg (o := 10) (nL := 6) (q := 38) (xs := [(.iload 5, 2, 5, 0, .null), (.aload_n 0, 1, 0, 0, .null), (.getfield 7, 3, 10, 0, .ref 20), (.bipush 11, 2, 0, 0, .int 11), (.iaload, 1, 0, 0, .null)]) (L' := [some (.ref 93), some (.int x1), some (.int x2), none, some (.int x4), some (.int x5)]) (st' := [.int (w.1 94 (Int32.toNatClampNeg 11)), .int x5]) (w' := w) (g := [jin 11 21000]) (K := [(94, 20), (94, 20), (93, 10)]) (by decide +kernel) rfl rfl rfl hg3 (jk1 kz_94 (jk1 kz_94 (jk1 kz_93 jk0))) ?_
    refine ev_icmp_ge (off := 54) (tgt := 92) (by decide +kernel) (by decide) (fun c9 => ?_) (fun c9 => ?_)
    · replace h := jneg c9 h
      refine ev_seg (o := 10) (nL := 6) (q := 93) (xs := [(.iconst (-1), 1, 0, 0, .int (-1))]) (L' := [some (.ref 93), some (.int x1), some (.int x2), none, some (.int x4), some (.int x5)]) (st' := [.int (-1)]) (w' := w) (g := []) (K := []) (by decide +kernel) rfl rfl rfl rfl jk0 ?_
      cases h
      exact ev_iret (by decide +kernel) rfl rfl rfl rfl
    · replace h := jpos c9 h
      obtain ⟨hg4, h⟩ := jgd h
      refine ev_seg (o := 10) (nL := 6) (q := 58) (xs := [(.aload_n 0, 1, 0, 0, .null), (.getfield 7, 3, 10, 0, .ref 20), (.sipush 13080, 3, 0, 0, .int 13080), (.bipush 8, 2, 0, 0, .int 8), (.iload 5, 2, 5, 0, .null), (.imul, 1, 0, 0, .null), (.iadd, 1, 0, 0, .null), (.iconst 1, 1, 0, 0, .int 1), (.iadd, 1, 0, 0, .null), (.iaload, 1, 0, 0, .null), (.iload_n 2, 1, 2, 0, .null)]) (L' := [some (.ref 93), some (.int x1), some (.int x2), none, some (.int x4), some (.int x5)]) (st' := [.int x2, .int (w.1 94 (Int32.toNatClampNeg ((13080 + (8 * x5)) + 1)))]) (w' := w) (g := [jin ((13080 + (8 * x5)) + 1) 21000]) (K := [(94, 20), (94, 20), (93, 10)]) (by decide +kernel) rfl rfl rfl hg4 (jk1 kz_94 (jk1 kz_94 (jk1 kz_93 jk0))) ?_
      refine ev_icmp_gt (off := 28) (tgt := 86) (by decide +kernel) (by decide) (fun c8 => ?_) (fun c8 => ?_)
      · replace h := jneg c8 h
        refine ev_seg (o := 10) (nL := 6) (q := 29) (xs := [(.iinc 5 1, 3, 5, 0, .int 1), (.goto (-60), 3, 0, 0, .null)]) (L' := [some (.ref 93), some (.int x1), some (.int x2), none, some (.int x4), some (.int (x5 + 1))]) (st' := []) (w' := w) (g := []) (K := []) (by decide +kernel) rfl rfl rfl rfl jk0 ?_
        refine ev_mask [true, true, true, false, true, true] ?_
        exact ih _ _ _ _ _ _ h
      · replace h := jpos c8 h
        refine ev_seg (o := 10) (nL := 6) (q := 65) (xs := [(.aload_n 0, 1, 0, 0, .null), (.iload 5, 2, 5, 0, .null), (.iload_n 2, 1, 2, 0, .null)]) (L' := [some (.ref 93), some (.int x1), some (.int x2), none, some (.int x4), some (.int x5)]) (st' := [.int x2, .int x5, .ref 93]) (w' := w) (g := []) (K := []) (by decide +kernel) rfl rfl rfl rfl jk0 ?_
        obtain ⟨q5, hq5, h⟩ := jbe h
        refine ev_callV (ci := 10) (a := 93) (y2 := y_Model_judgedOf) (o := 10) (idx := 319) (d2 := d_Model_judgedOf) (n := 2) (mc2 := 0) (ms2 := 0) (As := [.int x5, .int x2]) (st := []) (res2 := (some (.int q5.1), jR0, q5.2)) (by decide +kernel) rfl lk_10_319 mo_Model_judgedOf mv_Model_judgedOf ⟨Nat.le_of_ble_eq_true rfl, Nat.le_of_ble_eq_true rfl⟩ rfl rfl kz_93 (by decide) rfl (Nat.le_of_ble_eq_true rfl) ⟨Nat.le_refl _, Nat.le_refl _⟩ hG (e_Model_judgedOf hG hq5) ?_
        refine ev_seg (o := 10) (nL := 6) (q := 69) (xs := [(.iload_n 1, 1, 1, 0, .null)]) (L' := [some (.ref 93), some (.int x1), some (.int x2), none, some (.int x4), some (.int x5)]) (st' := [.int x1, .int q5.1]) (w' := q5.2) (g := []) (K := []) (by decide +kernel) rfl rfl rfl rfl jk0 ?_
        refine ev_icmp_eq (off := 6) (tgt := 75) (by decide +kernel) (by decide) (fun c7 => ?_) (fun c7 => ?_)
        · replace h := jpos c7 h
          refine ev_seg (o := 10) (nL := 6) (q := 77) (xs := [(.iload 4, 2, 4, 0, .null)]) (L' := [some (.ref 93), some (.int x1), some (.int x2), none, some (.int x4), some (.int x5)]) (st' := [.int x4]) (w' := q5.2) (g := []) (K := []) (by decide +kernel) rfl rfl rfl rfl jk0 ?_
          refine ev_if_ne (off := 6) (tgt := 83) (by decide +kernel) (by decide) (fun c6 => ?_) (fun c6 => ?_)
          · replace h := jneg c6 h
            refine ev_seg (o := 10) (nL := 6) (q := 29) (xs := [(.iinc 4 (-1), 3, 4, 0, .int (-1)), (.iinc 5 1, 3, 5, 0, .int 1), (.goto (-60), 3, 0, 0, .null)]) (L' := [some (.ref 93), some (.int x1), some (.int x2), none, some (.int (x4 + (-1))), some (.int (x5 + 1))]) (st' := []) (w' := q5.2) (g := []) (K := []) (by decide +kernel) rfl rfl rfl rfl jk0 ?_
            refine ev_mask [true, true, true, false, true, true] ?_
            exact ih _ _ _ _ _ _ h
          · replace h := jpos c6 h
            refine ev_seg (o := 10) (nL := 6) (q := 82) (xs := [(.iload 5, 2, 5, 0, .null)]) (L' := [some (.ref 93), some (.int x1), some (.int x2), none, some (.int x4), some (.int x5)]) (st' := [.int x5]) (w' := q5.2) (g := []) (K := []) (by decide +kernel) rfl rfl rfl rfl jk0 ?_
            cases h
            exact ev_iret (by decide +kernel) rfl rfl rfl rfl
        · replace h := jneg c7 h
          refine ev_seg (o := 10) (nL := 6) (q := 29) (xs := [(.goto 14, 3, 0, 0, .null), (.iinc 5 1, 3, 5, 0, .int 1), (.goto (-60), 3, 0, 0, .null)]) (L' := [some (.ref 93), some (.int x1), some (.int x2), none, some (.int x4), some (.int (x5 + 1))]) (st' := []) (w' := q5.2) (g := []) (K := []) (by decide +kernel) rfl rfl rfl rfl jk0 ?_
          refine ev_mask [true, true, true, false, true, true] ?_
          exact ih _ _ _ _ _ _ h
def f_Model_fails (x1 : Int32) (x2 : Int32) (x3 : Int32) (w : jW) : Option (Int32 × jW) :=
  Option.bind (f_Model_isIn x1 1 7 w) fun q1 =>
  if q1.1 = 0 then
    some ((-1), q1.2)
  else
    Option.bind (f_Model_isDay x2 q1.2) fun q2 =>
    if q2.1 = 0 then
      some ((-1), q2.2)
    else
      if x3 < 0 then
        some ((-1), q2.2)
      else
        f_Model_fails_h29 jfu x1 x2 x3 0 q2.2
set_option maxRecDepth 20000 in
theorem e_Model_fails {l : Launch} {G : jG} (hG : jX G) {x1 : Int32} {x2 : Int32} {x3 : Int32} {w : jW} {z : (Int32 × jW)} (h : f_Model_fails x1 x2 x3 w = some z) : Ct l G y_Model_fails d_Model_fails 0 0 [.ref 93, .int x1, .int x2, .int x3] jR0 w (some (.int z.1), jR0, z.2) := by
  rw [f_Model_fails] at h
  refine Ct.of (L := [some (.ref 93), some (.int x1), some (.int x2), some (.int x3), none, none]) (by decide) (Nat.le_of_ble_eq_true rfl) rfl ?_
  refine ev_seg (o := 10) (nL := 6) (q := 4) (xs := [(.iload_n 1, 1, 1, 0, .null), (.iconst 1, 1, 0, 0, .int 1), (.bipush 7, 2, 0, 0, .int 7)]) (L' := [some (.ref 93), some (.int x1), some (.int x2), some (.int x3), none, none]) (st' := [.int 7, .int 1, .int x1]) (w' := w) (g := []) (K := []) (by decide +kernel) rfl rfl rfl rfl jk0 ?_
  obtain ⟨q1, hq1, h⟩ := jbe h
  refine ev_callS (y2 := y_Model_isIn) (o := 10) (idx := 46) (d2 := d_Model_isIn) (n := 3) (mc2 := 0) (ms2 := 0) (As := [.int x1, .int 1, .int 7]) (st := []) (res2 := (some (.int q1.1), jR0, q1.2)) (by decide +kernel) rfl lk_10_46 mo_Model_isIn ms_Model_isIn ⟨Nat.le_of_ble_eq_true rfl, Nat.le_of_ble_eq_true rfl⟩ rfl rfl (Nat.le_of_ble_eq_true rfl) ⟨Nat.le_refl _, Nat.le_refl _⟩ hG (e_Model_isIn hG hq1) ?_
  refine ev_if_eq (off := 14) (tgt := 21) (by decide +kernel) (by decide) (fun c12 => ?_) (fun c12 => ?_)
  · replace h := jpos c12 h
    refine ev_seg (o := 10) (nL := 6) (q := 22) (xs := [(.iconst (-1), 1, 0, 0, .int (-1))]) (L' := [some (.ref 93), some (.int x1), some (.int x2), some (.int x3), none, none]) (st' := [.int (-1)]) (w' := q1.2) (g := []) (K := []) (by decide +kernel) rfl rfl rfl rfl jk0 ?_
    cases h
    exact ev_iret (by decide +kernel) rfl rfl rfl rfl
  · replace h := jneg c12 h
    refine ev_seg (o := 10) (nL := 6) (q := 11) (xs := [(.iload_n 2, 1, 2, 0, .null)]) (L' := [some (.ref 93), some (.int x1), some (.int x2), some (.int x3), none, none]) (st' := [.int x2]) (w' := q1.2) (g := []) (K := []) (by decide +kernel) rfl rfl rfl rfl jk0 ?_
    obtain ⟨q2, hq2, h⟩ := jbe h
    refine ev_callS (y2 := y_Model_isDay) (o := 10) (idx := 75) (d2 := d_Model_isDay) (n := 1) (mc2 := 0) (ms2 := 0) (As := [.int x2]) (st := []) (res2 := (some (.int q2.1), jR0, q2.2)) (by decide +kernel) rfl lk_10_75 mo_Model_isDay ms_Model_isDay ⟨Nat.le_of_ble_eq_true rfl, Nat.le_of_ble_eq_true rfl⟩ rfl rfl (Nat.le_of_ble_eq_true rfl) ⟨Nat.le_refl _, Nat.le_refl _⟩ hG (e_Model_isDay hG hq2) ?_
    refine ev_if_eq (off := 7) (tgt := 21) (by decide +kernel) (by decide) (fun c11 => ?_) (fun c11 => ?_)
    · replace h := jpos c11 h
      refine ev_seg (o := 10) (nL := 6) (q := 22) (xs := [(.iconst (-1), 1, 0, 0, .int (-1))]) (L' := [some (.ref 93), some (.int x1), some (.int x2), some (.int x3), none, none]) (st' := [.int (-1)]) (w' := q2.2) (g := []) (K := []) (by decide +kernel) rfl rfl rfl rfl jk0 ?_
      cases h
      exact ev_iret (by decide +kernel) rfl rfl rfl rfl
    · replace h := jneg c11 h
      refine ev_seg (o := 10) (nL := 6) (q := 18) (xs := [(.iload_n 3, 1, 3, 0, .null)]) (L' := [some (.ref 93), some (.int x1), some (.int x2), some (.int x3), none, none]) (st' := [.int x3]) (w' := q2.2) (g := []) (K := []) (by decide +kernel) rfl rfl rfl rfl jk0 ?_
      refine ev_if_ge (off := 5) (tgt := 23) (by decide +kernel) (by decide) (fun c10 => ?_) (fun c10 => ?_)
      · replace h := jneg c10 h
        refine ev_seg (o := 10) (nL := 6) (q := 29) (xs := [(.iload_n 3, 1, 3, 0, .null), (.istore 4, 2, 4, 0, .null), (.iconst 0, 1, 0, 0, .int 0), (.istore 5, 2, 5, 0, .null)]) (L' := [some (.ref 93), some (.int x1), some (.int x2), some (.int x3), some (.int x3), some (.int 0)]) (st' := []) (w' := q2.2) (g := []) (K := []) (by decide +kernel) rfl rfl rfl rfl jk0 ?_
        refine ev_mask [true, true, true, false, true, true] ?_
        exact t_Model_fails_h29 hG jfu _ _ _ _ _ _ h
      · replace h := jpos c10 h
        refine ev_seg (o := 10) (nL := 6) (q := 22) (xs := [(.iconst (-1), 1, 0, 0, .int (-1))]) (L' := [some (.ref 93), some (.int x1), some (.int x2), some (.int x3), none, none]) (st' := [.int (-1)]) (w' := q2.2) (g := []) (K := []) (by decide +kernel) rfl rfl rfl rfl jk0 ?_
        cases h
        exact ev_iret (by decide +kernel) rfl rfl rfl rfl
def f_Model_chance (x1 : Int32) (x2 : Int32) (w : jW) : Option (Int32 × jW) :=
  Option.bind (f_Model_isSite x1 w) fun q1 =>
  if q1.1 = 0 then
    some (0, q1.2)
  else
    Option.bind (f_Model_isIn x2 1 50 q1.2) fun q2 =>
    if q2.1 = 0 then
      some (0, q2.2)
    else
      if jal [jin ((40 + (8 * x1)) + 4) 21000] = true then
      jlw ((jup q2.2.1 94 (Int32.toNatClampNeg ((40 + (8 * x1)) + 4)) x2), q2.2.2) fun w4 =>
      some (1, w4)
      else none
set_option maxRecDepth 20000 in
theorem e_Model_chance {l : Launch} {G : jG} (hG : jX G) {x1 : Int32} {x2 : Int32} {w : jW} {z : (Int32 × jW)} (h : f_Model_chance x1 x2 w = some z) : Ct l G y_Model_chance d_Model_chance 0 0 [.ref 93, .int x1, .int x2] jR0 w (some (.int z.1), jR0, z.2) := by
  rw [f_Model_chance] at h
  refine Ct.of (L := [some (.ref 93), some (.int x1), some (.int x2)]) (by decide) (Nat.le_of_ble_eq_true rfl) rfl ?_
  refine ev_seg (o := 10) (nL := 3) (q := 2) (xs := [(.aload_n 0, 1, 0, 0, .null), (.iload_n 1, 1, 1, 0, .null)]) (L' := [some (.ref 93), some (.int x1), some (.int x2)]) (st' := [.int x1, .ref 93]) (w' := w) (g := []) (K := []) (by decide +kernel) rfl rfl rfl rfl jk0 ?_
  obtain ⟨q1, hq1, h⟩ := jbe h
  refine ev_callV (ci := 10) (a := 93) (y2 := y_Model_isSite) (o := 10) (idx := 50) (d2 := d_Model_isSite) (n := 1) (mc2 := 0) (ms2 := 0) (As := [.int x1]) (st := []) (res2 := (some (.int q1.1), jR0, q1.2)) (by decide +kernel) rfl lk_10_50 mo_Model_isSite mv_Model_isSite ⟨Nat.le_of_ble_eq_true rfl, Nat.le_of_ble_eq_true rfl⟩ rfl rfl kz_93 (by decide) rfl (Nat.le_of_ble_eq_true rfl) ⟨Nat.le_refl _, Nat.le_refl _⟩ hG (e_Model_isSite hG hq1) ?_
  refine ev_if_eq (off := 13) (tgt := 18) (by decide +kernel) (by decide) (fun c6 => ?_) (fun c6 => ?_)
  · replace h := jpos c6 h
    refine ev_seg (o := 10) (nL := 3) (q := 19) (xs := [(.iconst 0, 1, 0, 0, .int 0)]) (L' := [some (.ref 93), some (.int x1), some (.int x2)]) (st' := [.int 0]) (w' := q1.2) (g := []) (K := []) (by decide +kernel) rfl rfl rfl rfl jk0 ?_
    cases h
    exact ev_zret (by decide +kernel) rfl rfl rfl rfl rfl
  · replace h := jneg c6 h
    refine ev_seg (o := 10) (nL := 3) (q := 12) (xs := [(.iload_n 2, 1, 2, 0, .null), (.iconst 1, 1, 0, 0, .int 1), (.bipush 50, 2, 0, 0, .int 50)]) (L' := [some (.ref 93), some (.int x1), some (.int x2)]) (st' := [.int 50, .int 1, .int x2]) (w' := q1.2) (g := []) (K := []) (by decide +kernel) rfl rfl rfl rfl jk0 ?_
    obtain ⟨q2, hq2, h⟩ := jbe h
    refine ev_callS (y2 := y_Model_isIn) (o := 10) (idx := 46) (d2 := d_Model_isIn) (n := 3) (mc2 := 0) (ms2 := 0) (As := [.int x2, .int 1, .int 50]) (st := []) (res2 := (some (.int q2.1), jR0, q2.2)) (by decide +kernel) rfl lk_10_46 mo_Model_isIn ms_Model_isIn ⟨Nat.le_of_ble_eq_true rfl, Nat.le_of_ble_eq_true rfl⟩ rfl rfl (Nat.le_of_ble_eq_true rfl) ⟨Nat.le_refl _, Nat.le_refl _⟩ hG (e_Model_isIn hG hq2) ?_
    refine ev_if_ne (off := 5) (tgt := 20) (by decide +kernel) (by decide) (fun c5 => ?_) (fun c5 => ?_)
    · replace h := jneg c5 h
      obtain ⟨hg3, h⟩ := jgd h
      refine ev_seg (o := 10) (nL := 3) (q := 35) (xs := [(.aload_n 0, 1, 0, 0, .null), (.getfield 7, 3, 10, 0, .ref 20), (.bipush 40, 2, 0, 0, .int 40), (.bipush 8, 2, 0, 0, .int 8), (.iload_n 1, 1, 1, 0, .null), (.imul, 1, 0, 0, .null), (.iadd, 1, 0, 0, .null), (.iconst 4, 1, 0, 0, .int 4), (.iadd, 1, 0, 0, .null), (.iload_n 2, 1, 2, 0, .null), (.iastore, 1, 0, 0, .null)]) (L' := [some (.ref 93), some (.int x1), some (.int x2)]) (st' := []) (w' := ((jup q2.2.1 94 (Int32.toNatClampNeg ((40 + (8 * x1)) + 4)) x2), q2.2.2)) (g := [jin ((40 + (8 * x1)) + 4) 21000]) (K := [(94, 20), (94, 20), (93, 10)]) (by decide +kernel) rfl rfl rfl hg3 (jk1 kz_94 (jk1 kz_94 (jk1 kz_93 jk0))) ?_
      refine jlw_c (P := fun w4 => Ev l G (jrm d_Model_chance 0 0) y_Model_chance (some (.int z.1), jR0, z.2) 0 0 0 0 35 [some (.ref 93), some (.int x1), some (.int x2)] [] jR0 w4) h fun w4 h => ?_
      refine ev_seg (o := 10) (nL := 3) (q := 36) (xs := [(.iconst 1, 1, 0, 0, .int 1)]) (L' := [some (.ref 93), some (.int x1), some (.int x2)]) (st' := [.int 1]) (w' := w4) (g := []) (K := []) (by decide +kernel) rfl rfl rfl rfl jk0 ?_
      cases h
      exact ev_zret (by decide +kernel) rfl rfl rfl rfl rfl
    · replace h := jpos c5 h
      refine ev_seg (o := 10) (nL := 3) (q := 19) (xs := [(.iconst 0, 1, 0, 0, .int 0)]) (L' := [some (.ref 93), some (.int x1), some (.int x2)]) (st' := [.int 0]) (w' := q2.2) (g := []) (K := []) (by decide +kernel) rfl rfl rfl rfl jk0 ?_
      cases h
      exact ev_zret (by decide +kernel) rfl rfl rfl rfl rfl
def f_Model_common_h6 : Nat → Int64 → Int64 → jW → Option (Int64 × jW)
  | 0, _, _, _ => none
  | n + 1, x4, x6, w =>
  if (lg_cmp x6 0) = 0 then
    some (x4, w)
  else
    if jal [!(x6 == 0)] = true then
    (f_Model_common_h6 n) x6 (x4 - x4 / x6 * x6) w
    else none
set_option maxRecDepth 20000 in
theorem t_Model_common_h6 {l : Launch} {G : jG} (hG : jX G) : ∀ (n : Nat) (x4 : Int64) (x6 : Int64) (w : jW) (z : (Int64 × jW)), f_Model_common_h6 n x4 x6 w = some z → Ev l G (jrm d_Model_common 0 0) y_Model_common (some (.long z.1), jR0, z.2) 0 0 0 0 6 [none, none, none, none, some (.long x4), none, some (.long x6), none, none, none] [] jR0 w := by
  intro n
  induction n with
  | zero => intro x4 x6 w z h; simp only [f_Model_common_h6] at h; cases h
  | succ n ih =>
    intro x4 x6 w z h
    rw [f_Model_common_h6] at h
    refine ev_seg (o := 10) (nL := 10) (q := 10) (xs := [(.lload 6, 2, 6, 0, .null), (.lconst 0, 1, 0, 0, .long 0), (.lcmp, 1, 0, 0, .null)]) (L' := [none, none, none, none, some (.long x4), none, some (.long x6), none, none, none]) (st' := [.int (lg_cmp x6 0)]) (w' := w) (g := []) (K := []) (by decide +kernel) rfl rfl rfl rfl jk0 ?_
    refine ev_if_eq (off := 21) (tgt := 31) (by decide +kernel) (by decide) (fun c2 => ?_) (fun c2 => ?_)
    · replace h := jpos c2 h
      refine ev_seg (o := 10) (nL := 10) (q := 33) (xs := [(.lload 4, 2, 4, 0, .null)]) (L' := [none, none, none, none, some (.long x4), none, some (.long x6), none, none, none]) (st' := [.long x4]) (w' := w) (g := []) (K := []) (by decide +kernel) rfl rfl rfl rfl jk0 ?_
      cases h
      exact ev_lret (by decide +kernel) rfl rfl rfl rfl
    · replace h := jneg c2 h
      obtain ⟨hg1, h⟩ := jgd h
      refine ev_seg (o := 10) (nL := 10) (q := 6) (xs := [(.lload 4, 2, 4, 0, .null), (.lload 6, 2, 6, 0, .null), (.lrem, 1, 0, 0, .null), (.lstore 8, 2, 8, 0, .null), (.lload 6, 2, 6, 0, .null), (.lstore 4, 2, 4, 0, .null), (.lload 8, 2, 8, 0, .null), (.lstore 6, 2, 6, 0, .null), (.goto (-22), 3, 0, 0, .null)]) (L' := [none, none, none, none, some (.long x6), none, some (.long (x4 - x4 / x6 * x6)), none, some (.long (x4 - x4 / x6 * x6)), none]) (st' := []) (w' := w) (g := [!(x6 == 0)]) (K := []) (by decide +kernel) rfl rfl rfl hg1 jk0 ?_
      refine ev_mask [false, false, false, false, true, false, true, false, false, false] ?_
      exact ih _ _ _ _ h
def f_Model_common (x0 : Int64) (x2 : Int64) (w : jW) : Option (Int64 × jW) :=
  f_Model_common_h6 jfu x0 x2 w
set_option maxRecDepth 20000 in
theorem e_Model_common {l : Launch} {G : jG} (hG : jX G) {x0 : Int64} {x2 : Int64} {w : jW} {z : (Int64 × jW)} (h : f_Model_common x0 x2 w = some z) : Ct l G y_Model_common d_Model_common 0 0 [.long x0, .long x2] jR0 w (some (.long z.1), jR0, z.2) := by
  rw [f_Model_common] at h
  refine Ct.of (L := [some (.long x0), none, some (.long x2), none, none, none, none, none, none, none]) (by decide) (Nat.le_of_ble_eq_true rfl) rfl ?_
  refine ev_seg (o := 10) (nL := 10) (q := 6) (xs := [(.lload_n 0, 1, 0, 0, .null), (.lstore 4, 2, 4, 0, .null), (.lload_n 2, 1, 2, 0, .null), (.lstore 6, 2, 6, 0, .null)]) (L' := [some (.long x0), none, some (.long x2), none, some (.long x0), none, some (.long x2), none, none, none]) (st' := []) (w' := w) (g := []) (K := []) (by decide +kernel) rfl rfl rfl rfl jk0 ?_
  refine ev_mask [false, false, false, false, true, false, true, false, false, false] ?_
  exact t_Model_common_h6 hG jfu _ _ _ _ h
def f_Model_manyOf_h4 : Nat → Int32 → Int32 → Int32 → jW → Option (Int32 × jW)
  | 0, _, _, _, _ => none
  | n + 1, x1, x2, x3, w =>
  if x3 < 10 then
    (f_Model_manyOf_h4 n) x1 (x2 + ((x1 >>> (x3 &&& 31)) &&& 1)) (x3 + 1) w
  else
    some (x2, w)
set_option maxRecDepth 20000 in
theorem t_Model_manyOf_h4 {l : Launch} {G : jG} (hG : jX G) : ∀ (n : Nat) (x1 : Int32) (x2 : Int32) (x3 : Int32) (w : jW) (z : (Int32 × jW)), f_Model_manyOf_h4 n x1 x2 x3 w = some z → Ev l G (jrm d_Model_manyOf 0 0) y_Model_manyOf (some (.int z.1), jR0, z.2) 0 0 0 0 4 [none, some (.int x1), some (.int x2), some (.int x3)] [] jR0 w := by
  intro n
  induction n with
  | zero => intro x1 x2 x3 w z h; simp only [f_Model_manyOf_h4] at h; cases h
  | succ n ih =>
    intro x1 x2 x3 w z h
    rw [f_Model_manyOf_h4] at h
    refine ev_seg (o := 10) (nL := 4) (q := 7) (xs := [(.iload_n 3, 1, 3, 0, .null), (.bipush 10, 2, 0, 0, .int 10)]) (L' := [none, some (.int x1), some (.int x2), some (.int x3)]) (st' := [.int 10, .int x3]) (w' := w) (g := []) (K := []) (by decide +kernel) rfl rfl rfl rfl jk0 ?_
    refine ev_icmp_ge (off := 17) (tgt := 24) (by decide +kernel) (by decide) (fun c1 => ?_) (fun c1 => ?_)
    · replace h := jneg c1 h
      refine ev_seg (o := 10) (nL := 4) (q := 25) (xs := [(.iload_n 2, 1, 2, 0, .null)]) (L' := [none, some (.int x1), some (.int x2), some (.int x3)]) (st' := [.int x2]) (w' := w) (g := []) (K := []) (by decide +kernel) rfl rfl rfl rfl jk0 ?_
      cases h
      exact ev_iret (by decide +kernel) rfl rfl rfl rfl
    · replace h := jpos c1 h
      refine ev_seg (o := 10) (nL := 4) (q := 4) (xs := [(.iload_n 2, 1, 2, 0, .null), (.iload_n 1, 1, 1, 0, .null), (.iload_n 3, 1, 3, 0, .null), (.ishr, 1, 0, 0, .null), (.iconst 1, 1, 0, 0, .int 1), (.iand, 1, 0, 0, .null), (.iadd, 1, 0, 0, .null), (.istore_n 2, 1, 2, 0, .null), (.iinc 3 1, 3, 3, 0, .int 1), (.goto (-17), 3, 0, 0, .null)]) (L' := [none, some (.int x1), some (.int (x2 + ((x1 >>> (x3 &&& 31)) &&& 1))), some (.int (x3 + 1))]) (st' := []) (w' := w) (g := []) (K := []) (by decide +kernel) rfl rfl rfl rfl jk0 ?_
      refine ev_mask [false, true, true, true] ?_
      exact ih _ _ _ _ _ h
def f_Model_manyOf (x1 : Int32) (w : jW) : Option (Int32 × jW) :=
  f_Model_manyOf_h4 jfu x1 0 0 w
set_option maxRecDepth 20000 in
theorem e_Model_manyOf {l : Launch} {G : jG} (hG : jX G) {x1 : Int32} {w : jW} {z : (Int32 × jW)} (h : f_Model_manyOf x1 w = some z) : Ct l G y_Model_manyOf d_Model_manyOf 0 0 [.ref 93, .int x1] jR0 w (some (.int z.1), jR0, z.2) := by
  rw [f_Model_manyOf] at h
  refine Ct.of (L := [some (.ref 93), some (.int x1), none, none]) (by decide) (Nat.le_of_ble_eq_true rfl) rfl ?_
  refine ev_seg (o := 10) (nL := 4) (q := 4) (xs := [(.iconst 0, 1, 0, 0, .int 0), (.istore_n 2, 1, 2, 0, .null), (.iconst 0, 1, 0, 0, .int 0), (.istore_n 3, 1, 3, 0, .null)]) (L' := [some (.ref 93), some (.int x1), some (.int 0), some (.int 0)]) (st' := []) (w' := w) (g := []) (K := []) (by decide +kernel) rfl rfl rfl rfl jk0 ?_
  refine ev_mask [false, true, true, true] ?_
  exact t_Model_manyOf_h4 hG jfu _ _ _ _ _ h
def f_Model_isSet (x1 : Int32) (x2 : Int32) (w : jW) : Option (Int32 × jW) :=
  if jal [jin 1 21000] = true then
  Option.bind (f_Model_isIn x1 1 (((1 : Int32) <<< ((w.1 94 (Int32.toNatClampNeg 1)) &&& 31)) - 1) w) fun q2 =>
  if q2.1 = 0 then
    some (0, q2.2)
  else
    Option.bind (f_Model_manyOf x1 q2.2) fun q3 =>
    if q3.1 ≤ 5 then
      Option.bind (f_Model_manyOf x1 q3.2) fun q4 =>
      Option.bind (f_Model_isIn x2 1 q4.1 q4.2) fun q5 =>
      if q5.1 = 0 then
        some (0, q5.2)
      else
        some (1, q5.2)
    else
      some (0, q3.2)
  else none
set_option maxRecDepth 20000 in
theorem e_Model_isSet {l : Launch} {G : jG} (hG : jX G) {x1 : Int32} {x2 : Int32} {w : jW} {z : (Int32 × jW)} (h : f_Model_isSet x1 x2 w = some z) : Ct l G y_Model_isSet d_Model_isSet 0 0 [.ref 93, .int x1, .int x2] jR0 w (some (.int z.1), jR0, z.2) := by
  rw [f_Model_isSet] at h
  refine Ct.of (L := [some (.ref 93), some (.int x1), some (.int x2)]) (by decide) (Nat.le_of_ble_eq_true rfl) rfl ?_
  obtain ⟨hg1, h⟩ := jgd h
  refine ev_seg (o := 10) (nL := 3) (q := 12) (xs := [(.iload_n 1, 1, 1, 0, .null), (.iconst 1, 1, 0, 0, .int 1), (.iconst 1, 1, 0, 0, .int 1), (.aload_n 0, 1, 0, 0, .null), (.getfield 7, 3, 10, 0, .ref 20), (.iconst 1, 1, 0, 0, .int 1), (.iaload, 1, 0, 0, .null), (.ishl, 1, 0, 0, .null), (.iconst 1, 1, 0, 0, .int 1), (.isub, 1, 0, 0, .null)]) (L' := [some (.ref 93), some (.int x1), some (.int x2)]) (st' := [.int (((1 : Int32) <<< ((w.1 94 (Int32.toNatClampNeg 1)) &&& 31)) - 1), .int 1, .int x1]) (w' := w) (g := [jin 1 21000]) (K := [(94, 20), (94, 20), (93, 10)]) (by decide +kernel) rfl rfl rfl hg1 (jk1 kz_94 (jk1 kz_94 (jk1 kz_93 jk0))) ?_
  obtain ⟨q2, hq2, h⟩ := jbe h
  refine ev_callS (y2 := y_Model_isIn) (o := 10) (idx := 46) (d2 := d_Model_isIn) (n := 3) (mc2 := 0) (ms2 := 0) (As := [.int x1, .int 1, .int (((1 : Int32) <<< ((w.1 94 (Int32.toNatClampNeg 1)) &&& 31)) - 1)]) (st := []) (res2 := (some (.int q2.1), jR0, q2.2)) (by decide +kernel) rfl lk_10_46 mo_Model_isIn ms_Model_isIn ⟨Nat.le_of_ble_eq_true rfl, Nat.le_of_ble_eq_true rfl⟩ rfl rfl (Nat.le_of_ble_eq_true rfl) ⟨Nat.le_refl _, Nat.le_refl _⟩ hG (e_Model_isIn hG hq2) ?_
  refine ev_if_eq (off := 29) (tgt := 44) (by decide +kernel) (by decide) (fun c8 => ?_) (fun c8 => ?_)
  · replace h := jpos c8 h
    refine ev_seg (o := 10) (nL := 3) (q := 45) (xs := [(.iconst 0, 1, 0, 0, .int 0)]) (L' := [some (.ref 93), some (.int x1), some (.int x2)]) (st' := [.int 0]) (w' := q2.2) (g := []) (K := []) (by decide +kernel) rfl rfl rfl rfl jk0 ?_
    cases h
    exact ev_zret (by decide +kernel) rfl rfl rfl rfl rfl
  · replace h := jneg c8 h
    refine ev_seg (o := 10) (nL := 3) (q := 20) (xs := [(.aload_n 0, 1, 0, 0, .null), (.iload_n 1, 1, 1, 0, .null)]) (L' := [some (.ref 93), some (.int x1), some (.int x2)]) (st' := [.int x1, .ref 93]) (w' := q2.2) (g := []) (K := []) (by decide +kernel) rfl rfl rfl rfl jk0 ?_
    obtain ⟨q3, hq3, h⟩ := jbe h
    refine ev_callV (ci := 10) (a := 93) (y2 := y_Model_manyOf) (o := 10) (idx := 322) (d2 := d_Model_manyOf) (n := 1) (mc2 := 0) (ms2 := 0) (As := [.int x1]) (st := []) (res2 := (some (.int q3.1), jR0, q3.2)) (by decide +kernel) rfl lk_10_322 mo_Model_manyOf mv_Model_manyOf ⟨Nat.le_of_ble_eq_true rfl, Nat.le_of_ble_eq_true rfl⟩ rfl rfl kz_93 (by decide) rfl (Nat.le_of_ble_eq_true rfl) ⟨Nat.le_refl _, Nat.le_refl _⟩ hG (e_Model_manyOf hG hq3) ?_
    refine ev_seg (o := 10) (nL := 3) (q := 24) (xs := [(.iconst 5, 1, 0, 0, .int 5)]) (L' := [some (.ref 93), some (.int x1), some (.int x2)]) (st' := [.int 5, .int q3.1]) (w' := q3.2) (g := []) (K := []) (by decide +kernel) rfl rfl rfl rfl jk0 ?_
    refine ev_icmp_gt (off := 20) (tgt := 44) (by decide +kernel) (by decide) (fun c7 => ?_) (fun c7 => ?_)
    · replace h := jneg c7 h
      refine ev_seg (o := 10) (nL := 3) (q := 45) (xs := [(.iconst 0, 1, 0, 0, .int 0)]) (L' := [some (.ref 93), some (.int x1), some (.int x2)]) (st' := [.int 0]) (w' := q3.2) (g := []) (K := []) (by decide +kernel) rfl rfl rfl rfl jk0 ?_
      cases h
      exact ev_zret (by decide +kernel) rfl rfl rfl rfl rfl
    · replace h := jpos c7 h
      refine ev_seg (o := 10) (nL := 3) (q := 31) (xs := [(.iload_n 2, 1, 2, 0, .null), (.iconst 1, 1, 0, 0, .int 1), (.aload_n 0, 1, 0, 0, .null), (.iload_n 1, 1, 1, 0, .null)]) (L' := [some (.ref 93), some (.int x1), some (.int x2)]) (st' := [.int x1, .ref 93, .int 1, .int x2]) (w' := q3.2) (g := []) (K := []) (by decide +kernel) rfl rfl rfl rfl jk0 ?_
      obtain ⟨q4, hq4, h⟩ := jbe h
      refine ev_callV (ci := 10) (a := 93) (y2 := y_Model_manyOf) (o := 10) (idx := 322) (d2 := d_Model_manyOf) (n := 1) (mc2 := 0) (ms2 := 0) (As := [.int x1]) (st := [.int 1, .int x2]) (res2 := (some (.int q4.1), jR0, q4.2)) (by decide +kernel) rfl lk_10_322 mo_Model_manyOf mv_Model_manyOf ⟨Nat.le_of_ble_eq_true rfl, Nat.le_of_ble_eq_true rfl⟩ rfl rfl kz_93 (by decide) rfl (Nat.le_of_ble_eq_true rfl) ⟨Nat.le_refl _, Nat.le_refl _⟩ hG (e_Model_manyOf hG hq4) ?_
      obtain ⟨q5, hq5, h⟩ := jbe h
      refine ev_callS (y2 := y_Model_isIn) (o := 10) (idx := 46) (d2 := d_Model_isIn) (n := 3) (mc2 := 0) (ms2 := 0) (As := [.int x2, .int 1, .int q4.1]) (st := []) (res2 := (some (.int q5.1), jR0, q5.2)) (by decide +kernel) rfl lk_10_46 mo_Model_isIn ms_Model_isIn ⟨Nat.le_of_ble_eq_true rfl, Nat.le_of_ble_eq_true rfl⟩ rfl rfl (Nat.le_of_ble_eq_true rfl) ⟨Nat.le_refl _, Nat.le_refl _⟩ hG (e_Model_isIn hG hq5) ?_
      refine ev_if_eq (off := 7) (tgt := 44) (by decide +kernel) (by decide) (fun c6 => ?_) (fun c6 => ?_)
      · replace h := jpos c6 h
        refine ev_seg (o := 10) (nL := 3) (q := 45) (xs := [(.iconst 0, 1, 0, 0, .int 0)]) (L' := [some (.ref 93), some (.int x1), some (.int x2)]) (st' := [.int 0]) (w' := q5.2) (g := []) (K := []) (by decide +kernel) rfl rfl rfl rfl jk0 ?_
        cases h
        exact ev_zret (by decide +kernel) rfl rfl rfl rfl rfl
      · replace h := jneg c6 h
        refine ev_seg (o := 10) (nL := 3) (q := 45) (xs := [(.iconst 1, 1, 0, 0, .int 1), (.goto 4, 3, 0, 0, .null)]) (L' := [some (.ref 93), some (.int x1), some (.int x2)]) (st' := [.int 1]) (w' := q5.2) (g := []) (K := []) (by decide +kernel) rfl rfl rfl rfl jk0 ?_
        cases h
        exact ev_zret (by decide +kernel) rfl rfl rfl rfl rfl
def f_Model_valueOf_j140 (w : jW) : Option jW :=
  Option.bind (f_Model_common (w.2 93 20) (w.2 93 21) w) fun q4 =>
  if jal [!(q4.1 == 0)] = true then
  jlw (q4.2.1, (jup q4.2.2 93 20 ((q4.2.2 93 20) / q4.1))) fun w6 =>
  if jal [!(q4.1 == 0)] = true then
  jlw (w6.1, (jup w6.2 93 21 ((w6.2 93 21) / q4.1))) fun w8 =>
  some w8
  else none else none
set_option maxRecDepth 20000 in
theorem t_Model_valueOf_j140 {l : Launch} {G : jG} (hG : jX G) {w : jW} {z : jW} (h : f_Model_valueOf_j140 w = some z) : Ev l G (jrm d_Model_valueOf 0 0) y_Model_valueOf (none, jR0, z) 0 0 0 0 140 [some (.ref 93), none, none, none, none, none, none, none, none, none, none, none] [] jR0 w := by
  rw [f_Model_valueOf_j140] at h
  refine ev_seg (o := 10) (nL := 12) (q := 148) (xs := [(.aload_n 0, 1, 0, 0, .null), (.getfield 329, 3, 10, 20, .long 0), (.aload_n 0, 1, 0, 0, .null), (.getfield 332, 3, 10, 21, .long 0)]) (L' := [some (.ref 93), none, none, none, none, none, none, none, none, none, none, none]) (st' := [.long (w.2 93 21), .long (w.2 93 20)]) (w' := w) (g := []) (K := [(93, 10), (93, 10)]) (by decide +kernel) rfl rfl rfl rfl (jk1 kz_93 (jk1 kz_93 jk0)) ?_
  obtain ⟨q4, hq4, h⟩ := jbe h
  refine ev_callS (y2 := y_Model_common) (o := 10) (idx := 325) (d2 := d_Model_common) (n := 2) (mc2 := 0) (ms2 := 0) (As := [.long (w.2 93 20), .long (w.2 93 21)]) (st := []) (res2 := (some (.long q4.1), jR0, q4.2)) (by decide +kernel) rfl lk_10_325 mo_Model_common ms_Model_common ⟨Nat.le_of_ble_eq_true rfl, Nat.le_of_ble_eq_true rfl⟩ rfl rfl (Nat.le_of_ble_eq_true rfl) ⟨Nat.le_refl _, Nat.le_refl _⟩ hG (e_Model_common hG hq4) ?_
  obtain ⟨hg5, h⟩ := jgd h
  refine ev_seg (o := 10) (nL := 12) (q := 164) (xs := [(.lstore 8, 2, 8, 0, .null), (.aload_n 0, 1, 0, 0, .null), (.dup, 1, 0, 0, .null), (.getfield 329, 3, 10, 20, .long 0), (.lload 8, 2, 8, 0, .null), (.ldiv, 1, 0, 0, .null), (.putfield 329, 3, 10, 20, .long 0)]) (L' := [some (.ref 93), none, none, none, none, none, none, none, some (.long q4.1), none, none, none]) (st' := []) (w' := (q4.2.1, (jup q4.2.2 93 20 ((q4.2.2 93 20) / q4.1)))) (g := [!(q4.1 == 0)]) (K := [(93, 10), (93, 10)]) (by decide +kernel) rfl rfl rfl hg5 (jk1 kz_93 (jk1 kz_93 jk0)) ?_
  refine jlw_c (P := fun w6 => Ev l G (jrm d_Model_valueOf 0 0) y_Model_valueOf (none, jR0, z) 0 0 0 0 164 [some (.ref 93), none, none, none, none, none, none, none, some (.long q4.1), none, none, none] [] jR0 w6) h fun w6 h => ?_
  obtain ⟨hg7, h⟩ := jgd h
  refine ev_seg (o := 10) (nL := 12) (q := 175) (xs := [(.aload_n 0, 1, 0, 0, .null), (.dup, 1, 0, 0, .null), (.getfield 332, 3, 10, 21, .long 0), (.lload 8, 2, 8, 0, .null), (.ldiv, 1, 0, 0, .null), (.putfield 332, 3, 10, 21, .long 0)]) (L' := [some (.ref 93), none, none, none, none, none, none, none, some (.long q4.1), none, none, none]) (st' := []) (w' := (w6.1, (jup w6.2 93 21 ((w6.2 93 21) / q4.1)))) (g := [!(q4.1 == 0)]) (K := [(93, 10), (93, 10)]) (by decide +kernel) rfl rfl rfl hg7 (jk1 kz_93 (jk1 kz_93 jk0)) ?_
  refine jlw_c (P := fun w8 => Ev l G (jrm d_Model_valueOf 0 0) y_Model_valueOf (none, jR0, z) 0 0 0 0 175 [some (.ref 93), none, none, none, none, none, none, none, some (.long q4.1), none, none, none] [] jR0 w8) h fun w8 h => ?_
  cases h
  exact ev_vret (by decide +kernel) rfl rfl rfl rfl
def f_Model_valueOf_j55 (k12 : Int32 → Int32 → Int64 → Int64 → Int32 → Int32 → jW → Option jW) (x1 : Int32) (x2 : Int32) (x3 : Int64) (x5 : Int64) (x7 : Int32) (x8 : Int32) (x9 : Int32) (w : jW) : Option jW :=
  Option.bind (f_Model_common ((x3 * (Int32.toInt64 x9)) + x5) (x5 * (Int32.toInt64 x9)) w) fun q13 =>
  if jal [!(q13.1 == 0), !(q13.1 == 0)] = true then
  k12 x1 x2 (((x3 * (Int32.toInt64 x9)) + x5) / q13.1) ((x5 * (Int32.toInt64 x9)) / q13.1) x7 (x8 + 1) q13.2
  else none
set_option maxRecDepth 20000 in
theorem t_Model_valueOf_j55 {l : Launch} {G : jG} (hG : jX G) {k12 : Int32 → Int32 → Int64 → Int64 → Int32 → Int32 → jW → Option jW} (hk12 : ∀ (x1 : Int32) (x2 : Int32) (x3 : Int64) (x5 : Int64) (x7 : Int32) (x8 : Int32) (w : jW) (z : jW), k12 x1 x2 x3 x5 x7 x8 w = some z → Ev l G (jrm d_Model_valueOf 0 0) y_Model_valueOf (none, jR0, z) 0 0 0 0 12 [some (.ref 93), some (.int x1), some (.int x2), some (.long x3), none, some (.long x5), none, some (.int x7), some (.int x8), none, none, none] [] jR0 w) {x1 : Int32} {x2 : Int32} {x3 : Int64} {x5 : Int64} {x7 : Int32} {x8 : Int32} {x9 : Int32} {w : jW} {z : jW} (h : f_Model_valueOf_j55 k12 x1 x2 x3 x5 x7 x8 x9 w = some z) : Ev l G (jrm d_Model_valueOf 0 0) y_Model_valueOf (none, jR0, z) 0 0 0 0 55 [some (.ref 93), some (.int x1), some (.int x2), some (.long x3), none, some (.long x5), none, some (.int x7), some (.int x8), some (.int x9), none, none] [] jR0 w := by
  rw [f_Model_valueOf_j55] at h
  refine ev_seg (o := 10) (nL := 12) (q := 75) (xs := [(.lload_n 3, 1, 3, 0, .null), (.iload 9, 2, 9, 0, .null), (.i2l, 1, 0, 0, .null), (.lmul, 1, 0, 0, .null), (.lload 5, 2, 5, 0, .null), (.ladd, 1, 0, 0, .null), (.lstore_n 3, 1, 3, 0, .null), (.lload 5, 2, 5, 0, .null), (.iload 9, 2, 9, 0, .null), (.i2l, 1, 0, 0, .null), (.lmul, 1, 0, 0, .null), (.lstore 5, 2, 5, 0, .null), (.lload_n 3, 1, 3, 0, .null), (.lload 5, 2, 5, 0, .null)]) (L' := [some (.ref 93), some (.int x1), some (.int x2), some (.long ((x3 * (Int32.toInt64 x9)) + x5)), none, some (.long (x5 * (Int32.toInt64 x9))), none, some (.int x7), some (.int x8), some (.int x9), none, none]) (st' := [.long (x5 * (Int32.toInt64 x9)), .long ((x3 * (Int32.toInt64 x9)) + x5)]) (w' := w) (g := []) (K := []) (by decide +kernel) rfl rfl rfl rfl jk0 ?_
  obtain ⟨q13, hq13, h⟩ := jbe h
  refine ev_callS (y2 := y_Model_common) (o := 10) (idx := 325) (d2 := d_Model_common) (n := 2) (mc2 := 0) (ms2 := 0) (As := [.long ((x3 * (Int32.toInt64 x9)) + x5), .long (x5 * (Int32.toInt64 x9))]) (st := []) (res2 := (some (.long q13.1), jR0, q13.2)) (by decide +kernel) rfl lk_10_325 mo_Model_common ms_Model_common ⟨Nat.le_of_ble_eq_true rfl, Nat.le_of_ble_eq_true rfl⟩ rfl rfl (Nat.le_of_ble_eq_true rfl) ⟨Nat.le_refl _, Nat.le_refl _⟩ hG (e_Model_common hG hq13) ?_
  obtain ⟨hg14, h⟩ := jgd h
  refine ev_seg (o := 10) (nL := 12) (q := 12) (xs := [(.lstore 10, 2, 10, 0, .null), (.lload_n 3, 1, 3, 0, .null), (.lload 10, 2, 10, 0, .null), (.ldiv, 1, 0, 0, .null), (.lstore_n 3, 1, 3, 0, .null), (.lload 5, 2, 5, 0, .null), (.lload 10, 2, 10, 0, .null), (.ldiv, 1, 0, 0, .null), (.lstore 5, 2, 5, 0, .null), (.iinc 8 1, 3, 8, 0, .int 1), (.goto (-83), 3, 0, 0, .null)]) (L' := [some (.ref 93), some (.int x1), some (.int x2), some (.long (((x3 * (Int32.toInt64 x9)) + x5) / q13.1)), none, some (.long ((x5 * (Int32.toInt64 x9)) / q13.1)), none, some (.int x7), some (.int (x8 + 1)), some (.int x9), some (.long q13.1), none]) (st' := []) (w' := q13.2) (g := [!(q13.1 == 0), !(q13.1 == 0)]) (K := []) (by decide +kernel) rfl rfl rfl hg14 jk0 ?_
  refine ev_mask [true, true, true, true, false, true, false, true, true, false, false, false] ?_
  exact hk12 _ _ _ _ _ _ _ _ h
def f_Model_valueOf_h12 : Nat → Int32 → Int32 → Int64 → Int64 → Int32 → Int32 → jW → Option jW
  | 0, _, _, _, _, _, _, _ => none
  | n + 1, x1, x2, x3, x5, x7, x8, w =>
  if jal [jin 1 21000] = true then
  if x8 < (w.1 94 (Int32.toNatClampNeg 1)) then
    if ((x1 >>> (x8 &&& 31)) &&& 1) = 0 then
      (f_Model_valueOf_h12 n) x1 x2 x3 x5 x7 (x8 + 1) w
    else
      Option.bind (f_Model_siteAt x8 4 w) fun q12 =>
      if q12.1 < x7 then
        f_Model_valueOf_j55 (f_Model_valueOf_h12 n) x1 x2 x3 x5 q12.1 x8 q12.1 q12.2
      else
        f_Model_valueOf_j55 (f_Model_valueOf_h12 n) x1 x2 x3 x5 x7 x8 q12.1 q12.2
  else
    jlw (w.1, (jup w.2 93 20 ((Int32.toInt64 x2) * x5))) fun w2 =>
    jlw (w2.1, (jup w2.2 93 21 x3)) fun w3 =>
    if (lg_cmp (w3.2 93 20) ((Int32.toInt64 x7) * (w3.2 93 21))) ≤ 0 then
      f_Model_valueOf_j140 w3
    else
      jlw (w3.1, (jup w3.2 93 20 (Int32.toInt64 x7))) fun w9 =>
      jlw (w9.1, (jup w9.2 93 21 1)) fun w10 =>
      f_Model_valueOf_j140 w10
  else none
set_option maxRecDepth 20000 in
theorem t_Model_valueOf_h12 {l : Launch} {G : jG} (hG : jX G) : ∀ (n : Nat) (x1 : Int32) (x2 : Int32) (x3 : Int64) (x5 : Int64) (x7 : Int32) (x8 : Int32) (w : jW) (z : jW), f_Model_valueOf_h12 n x1 x2 x3 x5 x7 x8 w = some z → Ev l G (jrm d_Model_valueOf 0 0) y_Model_valueOf (none, jR0, z) 0 0 0 0 12 [some (.ref 93), some (.int x1), some (.int x2), some (.long x3), none, some (.long x5), none, some (.int x7), some (.int x8), none, none, none] [] jR0 w := by
  intro n
  induction n with
  | zero => intro x1 x2 x3 x5 x7 x8 w z h; simp only [f_Model_valueOf_h12] at h; cases h
  | succ n ih =>
    intro x1 x2 x3 x5 x7 x8 w z h
    rw [f_Model_valueOf_h12] at h
    obtain ⟨hg1, h⟩ := jgd h
    refine ev_seg (o := 10) (nL := 12) (q := 20) (xs := [(.iload 8, 2, 8, 0, .null), (.aload_n 0, 1, 0, 0, .null), (.getfield 7, 3, 10, 0, .ref 20), (.iconst 1, 1, 0, 0, .int 1), (.iaload, 1, 0, 0, .null)]) (L' := [some (.ref 93), some (.int x1), some (.int x2), some (.long x3), none, some (.long x5), none, some (.int x7), some (.int x8), none, none, none]) (st' := [.int (w.1 94 (Int32.toNatClampNeg 1)), .int x8]) (w' := w) (g := [jin 1 21000]) (K := [(94, 20), (94, 20), (93, 10)]) (by decide +kernel) rfl rfl rfl hg1 (jk1 kz_94 (jk1 kz_94 (jk1 kz_93 jk0))) ?_
    refine ev_icmp_ge (off := 78) (tgt := 98) (by decide +kernel) (by decide) (fun c17 => ?_) (fun c17 => ?_)
    · replace h := jneg c17 h
      refine ev_seg (o := 10) (nL := 12) (q := 107) (xs := [(.aload_n 0, 1, 0, 0, .null), (.iload_n 2, 1, 2, 0, .null), (.i2l, 1, 0, 0, .null), (.lload 5, 2, 5, 0, .null), (.lmul, 1, 0, 0, .null), (.putfield 329, 3, 10, 20, .long 0)]) (L' := [some (.ref 93), some (.int x1), some (.int x2), some (.long x3), none, some (.long x5), none, some (.int x7), some (.int x8), none, none, none]) (st' := []) (w' := (w.1, (jup w.2 93 20 ((Int32.toInt64 x2) * x5)))) (g := []) (K := [(93, 10)]) (by decide +kernel) rfl rfl rfl rfl (jk1 kz_93 jk0) ?_
      refine jlw_c (P := fun w2 => Ev l G (jrm d_Model_valueOf 0 0) y_Model_valueOf (none, jR0, z) 0 0 0 0 107 [some (.ref 93), some (.int x1), some (.int x2), some (.long x3), none, some (.long x5), none, some (.int x7), some (.int x8), none, none, none] [] jR0 w2) h fun w2 h => ?_
      refine ev_seg (o := 10) (nL := 12) (q := 112) (xs := [(.aload_n 0, 1, 0, 0, .null), (.lload_n 3, 1, 3, 0, .null), (.putfield 332, 3, 10, 21, .long 0)]) (L' := [some (.ref 93), some (.int x1), some (.int x2), some (.long x3), none, some (.long x5), none, some (.int x7), some (.int x8), none, none, none]) (st' := []) (w' := (w2.1, (jup w2.2 93 21 x3))) (g := []) (K := [(93, 10)]) (by decide +kernel) rfl rfl rfl rfl (jk1 kz_93 jk0) ?_
      refine jlw_c (P := fun w3 => Ev l G (jrm d_Model_valueOf 0 0) y_Model_valueOf (none, jR0, z) 0 0 0 0 112 [some (.ref 93), some (.int x1), some (.int x2), some (.long x3), none, some (.long x5), none, some (.int x7), some (.int x8), none, none, none] [] jR0 w3) h fun w3 h => ?_
      refine ev_seg (o := 10) (nL := 12) (q := 125) (xs := [(.aload_n 0, 1, 0, 0, .null), (.getfield 329, 3, 10, 20, .long 0), (.iload 7, 2, 7, 0, .null), (.i2l, 1, 0, 0, .null), (.aload_n 0, 1, 0, 0, .null), (.getfield 332, 3, 10, 21, .long 0), (.lmul, 1, 0, 0, .null), (.lcmp, 1, 0, 0, .null)]) (L' := [some (.ref 93), some (.int x1), some (.int x2), some (.long x3), none, some (.long x5), none, some (.int x7), some (.int x8), none, none, none]) (st' := [.int (lg_cmp (w3.2 93 20) ((Int32.toInt64 x7) * (w3.2 93 21)))]) (w' := w3) (g := []) (K := [(93, 10), (93, 10)]) (by decide +kernel) rfl rfl rfl rfl (jk1 kz_93 (jk1 kz_93 jk0)) ?_
      refine ev_if_le (off := 15) (tgt := 140) (by decide +kernel) (by decide) (fun c11 => ?_) (fun c11 => ?_)
      · replace h := jpos c11 h
        refine ev_mask [true, false, false, false, false, false, false, false, false, false, false, false] ?_
        exact t_Model_valueOf_j140 hG h
      · replace h := jneg c11 h
        refine ev_seg (o := 10) (nL := 12) (q := 135) (xs := [(.aload_n 0, 1, 0, 0, .null), (.iload 7, 2, 7, 0, .null), (.i2l, 1, 0, 0, .null), (.putfield 329, 3, 10, 20, .long 0)]) (L' := [some (.ref 93), some (.int x1), some (.int x2), some (.long x3), none, some (.long x5), none, some (.int x7), some (.int x8), none, none, none]) (st' := []) (w' := (w3.1, (jup w3.2 93 20 (Int32.toInt64 x7)))) (g := []) (K := [(93, 10)]) (by decide +kernel) rfl rfl rfl rfl (jk1 kz_93 jk0) ?_
        refine jlw_c (P := fun w9 => Ev l G (jrm d_Model_valueOf 0 0) y_Model_valueOf (none, jR0, z) 0 0 0 0 135 [some (.ref 93), some (.int x1), some (.int x2), some (.long x3), none, some (.long x5), none, some (.int x7), some (.int x8), none, none, none] [] jR0 w9) h fun w9 h => ?_
        refine ev_seg (o := 10) (nL := 12) (q := 140) (xs := [(.aload_n 0, 1, 0, 0, .null), (.lconst 1, 1, 0, 0, .long 1), (.putfield 332, 3, 10, 21, .long 0)]) (L' := [some (.ref 93), some (.int x1), some (.int x2), some (.long x3), none, some (.long x5), none, some (.int x7), some (.int x8), none, none, none]) (st' := []) (w' := (w9.1, (jup w9.2 93 21 1))) (g := []) (K := [(93, 10)]) (by decide +kernel) rfl rfl rfl rfl (jk1 kz_93 jk0) ?_
        refine jlw_c (P := fun w10 => Ev l G (jrm d_Model_valueOf 0 0) y_Model_valueOf (none, jR0, z) 0 0 0 0 140 [some (.ref 93), some (.int x1), some (.int x2), some (.long x3), none, some (.long x5), none, some (.int x7), some (.int x8), none, none, none] [] jR0 w10) h fun w10 h => ?_
        refine ev_mask [true, false, false, false, false, false, false, false, false, false, false, false] ?_
        exact t_Model_valueOf_j140 hG h
    · replace h := jpos c17 h
      refine ev_seg (o := 10) (nL := 12) (q := 29) (xs := [(.iload_n 1, 1, 1, 0, .null), (.iload 8, 2, 8, 0, .null), (.ishr, 1, 0, 0, .null), (.iconst 1, 1, 0, 0, .int 1), (.iand, 1, 0, 0, .null)]) (L' := [some (.ref 93), some (.int x1), some (.int x2), some (.long x3), none, some (.long x5), none, some (.int x7), some (.int x8), none, none, none]) (st' := [.int ((x1 >>> (x8 &&& 31)) &&& 1)]) (w' := w) (g := []) (K := []) (by decide +kernel) rfl rfl rfl rfl jk0 ?_
      refine ev_if_ne (off := 6) (tgt := 35) (by decide +kernel) (by decide) (fun c16 => ?_) (fun c16 => ?_)
      · replace h := jneg c16 h
        refine ev_seg (o := 10) (nL := 12) (q := 39) (xs := [(.aload_n 0, 1, 0, 0, .null), (.iload 8, 2, 8, 0, .null), (.iconst 4, 1, 0, 0, .int 4)]) (L' := [some (.ref 93), some (.int x1), some (.int x2), some (.long x3), none, some (.long x5), none, some (.int x7), some (.int x8), none, none, none]) (st' := [.int 4, .int x8, .ref 93]) (w' := w) (g := []) (K := []) (by decide +kernel) rfl rfl rfl rfl jk0 ?_
        obtain ⟨q12, hq12, h⟩ := jbe h
        refine ev_callV (ci := 10) (a := 93) (y2 := y_Model_siteAt) (o := 10) (idx := 54) (d2 := d_Model_siteAt) (n := 2) (mc2 := 0) (ms2 := 0) (As := [.int x8, .int 4]) (st := []) (res2 := (some (.int q12.1), jR0, q12.2)) (by decide +kernel) rfl lk_10_54 mo_Model_siteAt mv_Model_siteAt ⟨Nat.le_of_ble_eq_true rfl, Nat.le_of_ble_eq_true rfl⟩ rfl rfl kz_93 (by decide) rfl (Nat.le_of_ble_eq_true rfl) ⟨Nat.le_refl _, Nat.le_refl _⟩ hG (e_Model_siteAt hG hq12) ?_
        refine ev_seg (o := 10) (nL := 12) (q := 48) (xs := [(.istore 9, 2, 9, 0, .null), (.iload 9, 2, 9, 0, .null), (.iload 7, 2, 7, 0, .null)]) (L' := [some (.ref 93), some (.int x1), some (.int x2), some (.long x3), none, some (.long x5), none, some (.int x7), some (.int x8), some (.int q12.1), none, none]) (st' := [.int x7, .int q12.1]) (w' := q12.2) (g := []) (K := []) (by decide +kernel) rfl rfl rfl rfl jk0 ?_
        refine ev_icmp_ge (off := 7) (tgt := 55) (by decide +kernel) (by decide) (fun c15 => ?_) (fun c15 => ?_)
        · replace h := jneg c15 h
          refine ev_mask [true, true, true, true, false, true, false, true, true, true, false, false] ?_
          exact t_Model_valueOf_j55 hG ih h
        · replace h := jpos c15 h
          refine ev_seg (o := 10) (nL := 12) (q := 55) (xs := [(.iload 9, 2, 9, 0, .null), (.istore 7, 2, 7, 0, .null)]) (L' := [some (.ref 93), some (.int x1), some (.int x2), some (.long x3), none, some (.long x5), none, some (.int q12.1), some (.int x8), some (.int q12.1), none, none]) (st' := []) (w' := q12.2) (g := []) (K := []) (by decide +kernel) rfl rfl rfl rfl jk0 ?_
          refine ev_mask [true, true, true, true, false, true, false, true, true, true, false, false] ?_
          exact t_Model_valueOf_j55 hG ih h
      · replace h := jpos c16 h
        refine ev_seg (o := 10) (nL := 12) (q := 12) (xs := [(.goto 60, 3, 0, 0, .null), (.iinc 8 1, 3, 8, 0, .int 1), (.goto (-83), 3, 0, 0, .null)]) (L' := [some (.ref 93), some (.int x1), some (.int x2), some (.long x3), none, some (.long x5), none, some (.int x7), some (.int (x8 + 1)), none, none, none]) (st' := []) (w' := w) (g := []) (K := []) (by decide +kernel) rfl rfl rfl rfl jk0 ?_
        refine ev_mask [true, true, true, true, false, true, false, true, true, false, false, false] ?_
        exact ih _ _ _ _ _ _ _ _ h
def f_Model_valueOf (x1 : Int32) (x2 : Int32) (w : jW) : Option jW :=
  f_Model_valueOf_h12 jfu x1 x2 0 1 50 0 w
set_option maxRecDepth 20000 in
theorem e_Model_valueOf {l : Launch} {G : jG} (hG : jX G) {x1 : Int32} {x2 : Int32} {w : jW} {z : jW} (h : f_Model_valueOf x1 x2 w = some z) : Ct l G y_Model_valueOf d_Model_valueOf 0 0 [.ref 93, .int x1, .int x2] jR0 w (none, jR0, z) := by
  rw [f_Model_valueOf] at h
  refine Ct.of (L := [some (.ref 93), some (.int x1), some (.int x2), none, none, none, none, none, none, none, none, none]) (by decide) (Nat.le_of_ble_eq_true rfl) rfl ?_
  refine ev_seg (o := 10) (nL := 12) (q := 12) (xs := [(.lconst 0, 1, 0, 0, .long 0), (.lstore_n 3, 1, 3, 0, .null), (.lconst 1, 1, 0, 0, .long 1), (.lstore 5, 2, 5, 0, .null), (.bipush 50, 2, 0, 0, .int 50), (.istore 7, 2, 7, 0, .null), (.iconst 0, 1, 0, 0, .int 0), (.istore 8, 2, 8, 0, .null)]) (L' := [some (.ref 93), some (.int x1), some (.int x2), some (.long 0), none, some (.long 1), none, some (.int 50), some (.int 0), none, none, none]) (st' := []) (w' := w) (g := []) (K := []) (by decide +kernel) rfl rfl rfl rfl jk0 ?_
  refine ev_mask [true, true, true, true, false, true, false, true, true, false, false, false] ?_
  exact t_Model_valueOf_h12 hG jfu _ _ _ _ _ _ _ _ h
def f_Model_value (x1 : Int32) (x2 : Int32) (x3 : Int32) (w : jW) : Option (Int64 × jW) :=
  Option.bind (f_Model_isSet x1 x2 w) fun q1 =>
  if q1.1 = 0 then
    some ((-1), q1.2)
  else
    Option.bind (f_Model_valueOf x1 x2 q1.2) fun q2 =>
    if x3 = 0 then
      some ((q2.2 93 20), q2)
    else
      some ((q2.2 93 21), q2)
set_option maxRecDepth 20000 in
theorem e_Model_value {l : Launch} {G : jG} (hG : jX G) {x1 : Int32} {x2 : Int32} {x3 : Int32} {w : jW} {z : (Int64 × jW)} (h : f_Model_value x1 x2 x3 w = some z) : Ct l G y_Model_value d_Model_value 0 0 [.ref 93, .int x1, .int x2, .int x3] jR0 w (some (.long z.1), jR0, z.2) := by
  rw [f_Model_value] at h
  refine Ct.of (L := [some (.ref 93), some (.int x1), some (.int x2), some (.int x3)]) (by decide) (Nat.le_of_ble_eq_true rfl) rfl ?_
  refine ev_seg (o := 10) (nL := 4) (q := 3) (xs := [(.aload_n 0, 1, 0, 0, .null), (.iload_n 1, 1, 1, 0, .null), (.iload_n 2, 1, 2, 0, .null)]) (L' := [some (.ref 93), some (.int x1), some (.int x2), some (.int x3)]) (st' := [.int x2, .int x1, .ref 93]) (w' := w) (g := []) (K := []) (by decide +kernel) rfl rfl rfl rfl jk0 ?_
  obtain ⟨q1, hq1, h⟩ := jbe h
  refine ev_callV (ci := 10) (a := 93) (y2 := y_Model_isSet) (o := 10) (idx := 335) (d2 := d_Model_isSet) (n := 2) (mc2 := 0) (ms2 := 0) (As := [.int x1, .int x2]) (st := []) (res2 := (some (.int q1.1), jR0, q1.2)) (by decide +kernel) rfl lk_10_335 mo_Model_isSet mv_Model_isSet ⟨Nat.le_of_ble_eq_true rfl, Nat.le_of_ble_eq_true rfl⟩ rfl rfl kz_93 (by decide) rfl (Nat.le_of_ble_eq_true rfl) ⟨Nat.le_refl _, Nat.le_refl _⟩ hG (e_Model_isSet hG hq1) ?_
  refine ev_if_ne (off := 7) (tgt := 13) (by decide +kernel) (by decide) (fun c4 => ?_) (fun c4 => ?_)
  · replace h := jneg c4 h
    refine ev_seg (o := 10) (nL := 4) (q := 16) (xs := [(.aload_n 0, 1, 0, 0, .null), (.iload_n 1, 1, 1, 0, .null), (.iload_n 2, 1, 2, 0, .null)]) (L' := [some (.ref 93), some (.int x1), some (.int x2), some (.int x3)]) (st' := [.int x2, .int x1, .ref 93]) (w' := q1.2) (g := []) (K := []) (by decide +kernel) rfl rfl rfl rfl jk0 ?_
    obtain ⟨q2, hq2, h⟩ := jbe h
    refine ev_callV (ci := 10) (a := 93) (y2 := y_Model_valueOf) (o := 10) (idx := 340) (d2 := d_Model_valueOf) (n := 2) (mc2 := 0) (ms2 := 0) (As := [.int x1, .int x2]) (st := []) (res2 := (none, jR0, q2)) (by decide +kernel) rfl lk_10_340 mo_Model_valueOf mv_Model_valueOf ⟨Nat.le_of_ble_eq_true rfl, Nat.le_of_ble_eq_true rfl⟩ rfl rfl kz_93 (by decide) rfl (Nat.le_of_ble_eq_true rfl) ⟨Nat.le_refl _, Nat.le_refl _⟩ hG (e_Model_valueOf hG hq2) ?_
    refine ev_seg (o := 10) (nL := 4) (q := 20) (xs := [(.iload_n 3, 1, 3, 0, .null)]) (L' := [some (.ref 93), some (.int x1), some (.int x2), some (.int x3)]) (st' := [.int x3]) (w' := q2) (g := []) (K := []) (by decide +kernel) rfl rfl rfl rfl jk0 ?_
    refine ev_if_eq (off := 10) (tgt := 30) (by decide +kernel) (by decide) (fun c3 => ?_) (fun c3 => ?_)
    · replace h := jpos c3 h
      refine ev_seg (o := 10) (nL := 4) (q := 34) (xs := [(.aload_n 0, 1, 0, 0, .null), (.getfield 329, 3, 10, 20, .long 0)]) (L' := [some (.ref 93), some (.int x1), some (.int x2), some (.int x3)]) (st' := [.long (q2.2 93 20)]) (w' := q2) (g := []) (K := [(93, 10)]) (by decide +kernel) rfl rfl rfl rfl (jk1 kz_93 jk0) ?_
      cases h
      exact ev_lret (by decide +kernel) rfl rfl rfl rfl
    · replace h := jneg c3 h
      refine ev_seg (o := 10) (nL := 4) (q := 34) (xs := [(.aload_n 0, 1, 0, 0, .null), (.getfield 332, 3, 10, 21, .long 0), (.goto 7, 3, 0, 0, .null)]) (L' := [some (.ref 93), some (.int x1), some (.int x2), some (.int x3)]) (st' := [.long (q2.2 93 21)]) (w' := q2) (g := []) (K := [(93, 10)]) (by decide +kernel) rfl rfl rfl rfl (jk1 kz_93 jk0) ?_
      cases h
      exact ev_lret (by decide +kernel) rfl rfl rfl rfl
  · replace h := jpos c4 h
    refine ev_seg (o := 10) (nL := 4) (q := 12) (xs := [(.ldc2_w 338, 3, 0, 0, .long (-1))]) (L' := [some (.ref 93), some (.int x1), some (.int x2), some (.int x3)]) (st' := [.long (-1)]) (w' := q1.2) (g := []) (K := []) (by decide +kernel) rfl rfl rfl rfl jk0 ?_
    cases h
    exact ev_lret (by decide +kernel) rfl rfl rfl rfl
def f_Model_share (x1 : Int32) (x2 : Int32) (x3 : Int32) (x4 : Int32) (w : jW) : Option (Int64 × jW) :=
  Option.bind (f_Model_isSet x1 x2 w) fun q1 =>
  if q1.1 = 0 then
    some ((-1), q1.2)
  else
    Option.bind (f_Model_isSite x3 q1.2) fun q2 =>
    if q2.1 = 0 then
      some ((-1), q2.2)
    else
      if ((x1 >>> (x3 &&& 31)) &&& 1) = 0 then
        some ((-1), q2.2)
      else
        Option.bind (f_Model_valueOf x1 x2 q2.2) fun q3 =>
        Option.bind (f_Model_siteAt x3 4 q3) fun q4 =>
        Option.bind (f_Model_common (q4.2.2 93 20) ((q3.2 93 21) * (Int32.toInt64 q4.1)) q4.2) fun q5 =>
        if x4 = 0 then
          if jal [!(q5.1 == 0)] = true then
          some (((q5.2.2 93 20) / q5.1), q5.2)
          else none
        else
          if jal [!(q5.1 == 0)] = true then
          some ((((q3.2 93 21) * (Int32.toInt64 q4.1)) / q5.1), q5.2)
          else none
set_option maxRecDepth 20000 in
theorem e_Model_share {l : Launch} {G : jG} (hG : jX G) {x1 : Int32} {x2 : Int32} {x3 : Int32} {x4 : Int32} {w : jW} {z : (Int64 × jW)} (h : f_Model_share x1 x2 x3 x4 w = some z) : Ct l G y_Model_share d_Model_share 0 0 [.ref 93, .int x1, .int x2, .int x3, .int x4] jR0 w (some (.long z.1), jR0, z.2) := by
  rw [f_Model_share] at h
  refine Ct.of (L := [some (.ref 93), some (.int x1), some (.int x2), some (.int x3), some (.int x4), none, none, none, none]) (by decide) (Nat.le_of_ble_eq_true rfl) rfl ?_
  refine ev_seg (o := 10) (nL := 9) (q := 3) (xs := [(.aload_n 0, 1, 0, 0, .null), (.iload_n 1, 1, 1, 0, .null), (.iload_n 2, 1, 2, 0, .null)]) (L' := [some (.ref 93), some (.int x1), some (.int x2), some (.int x3), some (.int x4), none, none, none, none]) (st' := [.int x2, .int x1, .ref 93]) (w' := w) (g := []) (K := []) (by decide +kernel) rfl rfl rfl rfl jk0 ?_
  obtain ⟨q1, hq1, h⟩ := jbe h
  refine ev_callV (ci := 10) (a := 93) (y2 := y_Model_isSet) (o := 10) (idx := 335) (d2 := d_Model_isSet) (n := 2) (mc2 := 0) (ms2 := 0) (As := [.int x1, .int x2]) (st := []) (res2 := (some (.int q1.1), jR0, q1.2)) (by decide +kernel) rfl lk_10_335 mo_Model_isSet mv_Model_isSet ⟨Nat.le_of_ble_eq_true rfl, Nat.le_of_ble_eq_true rfl⟩ rfl rfl kz_93 (by decide) rfl (Nat.le_of_ble_eq_true rfl) ⟨Nat.le_refl _, Nat.le_refl _⟩ hG (e_Model_isSet hG hq1) ?_
  refine ev_if_eq (off := 19) (tgt := 25) (by decide +kernel) (by decide) (fun c11 => ?_) (fun c11 => ?_)
  · replace h := jpos c11 h
    refine ev_seg (o := 10) (nL := 9) (q := 28) (xs := [(.ldc2_w 338, 3, 0, 0, .long (-1))]) (L' := [some (.ref 93), some (.int x1), some (.int x2), some (.int x3), some (.int x4), none, none, none, none]) (st' := [.long (-1)]) (w' := q1.2) (g := []) (K := []) (by decide +kernel) rfl rfl rfl rfl jk0 ?_
    cases h
    exact ev_lret (by decide +kernel) rfl rfl rfl rfl
  · replace h := jneg c11 h
    refine ev_seg (o := 10) (nL := 9) (q := 11) (xs := [(.aload_n 0, 1, 0, 0, .null), (.iload_n 3, 1, 3, 0, .null)]) (L' := [some (.ref 93), some (.int x1), some (.int x2), some (.int x3), some (.int x4), none, none, none, none]) (st' := [.int x3, .ref 93]) (w' := q1.2) (g := []) (K := []) (by decide +kernel) rfl rfl rfl rfl jk0 ?_
    obtain ⟨q2, hq2, h⟩ := jbe h
    refine ev_callV (ci := 10) (a := 93) (y2 := y_Model_isSite) (o := 10) (idx := 50) (d2 := d_Model_isSite) (n := 1) (mc2 := 0) (ms2 := 0) (As := [.int x3]) (st := []) (res2 := (some (.int q2.1), jR0, q2.2)) (by decide +kernel) rfl lk_10_50 mo_Model_isSite mv_Model_isSite ⟨Nat.le_of_ble_eq_true rfl, Nat.le_of_ble_eq_true rfl⟩ rfl rfl kz_93 (by decide) rfl (Nat.le_of_ble_eq_true rfl) ⟨Nat.le_refl _, Nat.le_refl _⟩ hG (e_Model_isSite hG hq2) ?_
    refine ev_if_eq (off := 11) (tgt := 25) (by decide +kernel) (by decide) (fun c10 => ?_) (fun c10 => ?_)
    · replace h := jpos c10 h
      refine ev_seg (o := 10) (nL := 9) (q := 28) (xs := [(.ldc2_w 338, 3, 0, 0, .long (-1))]) (L' := [some (.ref 93), some (.int x1), some (.int x2), some (.int x3), some (.int x4), none, none, none, none]) (st' := [.long (-1)]) (w' := q2.2) (g := []) (K := []) (by decide +kernel) rfl rfl rfl rfl jk0 ?_
      cases h
      exact ev_lret (by decide +kernel) rfl rfl rfl rfl
    · replace h := jneg c10 h
      refine ev_seg (o := 10) (nL := 9) (q := 22) (xs := [(.iload_n 1, 1, 1, 0, .null), (.iload_n 3, 1, 3, 0, .null), (.ishr, 1, 0, 0, .null), (.iconst 1, 1, 0, 0, .int 1), (.iand, 1, 0, 0, .null)]) (L' := [some (.ref 93), some (.int x1), some (.int x2), some (.int x3), some (.int x4), none, none, none, none]) (st' := [.int ((x1 >>> (x3 &&& 31)) &&& 1)]) (w' := q2.2) (g := []) (K := []) (by decide +kernel) rfl rfl rfl rfl jk0 ?_
      refine ev_if_ne (off := 7) (tgt := 29) (by decide +kernel) (by decide) (fun c9 => ?_) (fun c9 => ?_)
      · replace h := jneg c9 h
        refine ev_seg (o := 10) (nL := 9) (q := 32) (xs := [(.aload_n 0, 1, 0, 0, .null), (.iload_n 1, 1, 1, 0, .null), (.iload_n 2, 1, 2, 0, .null)]) (L' := [some (.ref 93), some (.int x1), some (.int x2), some (.int x3), some (.int x4), none, none, none, none]) (st' := [.int x2, .int x1, .ref 93]) (w' := q2.2) (g := []) (K := []) (by decide +kernel) rfl rfl rfl rfl jk0 ?_
        obtain ⟨q3, hq3, h⟩ := jbe h
        refine ev_callV (ci := 10) (a := 93) (y2 := y_Model_valueOf) (o := 10) (idx := 340) (d2 := d_Model_valueOf) (n := 2) (mc2 := 0) (ms2 := 0) (As := [.int x1, .int x2]) (st := []) (res2 := (none, jR0, q3)) (by decide +kernel) rfl lk_10_340 mo_Model_valueOf mv_Model_valueOf ⟨Nat.le_of_ble_eq_true rfl, Nat.le_of_ble_eq_true rfl⟩ rfl rfl kz_93 (by decide) rfl (Nat.le_of_ble_eq_true rfl) ⟨Nat.le_refl _, Nat.le_refl _⟩ hG (e_Model_valueOf hG hq3) ?_
        refine ev_seg (o := 10) (nL := 9) (q := 42) (xs := [(.aload_n 0, 1, 0, 0, .null), (.getfield 332, 3, 10, 21, .long 0), (.aload_n 0, 1, 0, 0, .null), (.iload_n 3, 1, 3, 0, .null), (.iconst 4, 1, 0, 0, .int 4)]) (L' := [some (.ref 93), some (.int x1), some (.int x2), some (.int x3), some (.int x4), none, none, none, none]) (st' := [.int 4, .int x3, .ref 93, .long (q3.2 93 21)]) (w' := q3) (g := []) (K := [(93, 10)]) (by decide +kernel) rfl rfl rfl rfl (jk1 kz_93 jk0) ?_
        obtain ⟨q4, hq4, h⟩ := jbe h
        refine ev_callV (ci := 10) (a := 93) (y2 := y_Model_siteAt) (o := 10) (idx := 54) (d2 := d_Model_siteAt) (n := 2) (mc2 := 0) (ms2 := 0) (As := [.int x3, .int 4]) (st := [.long (q3.2 93 21)]) (res2 := (some (.int q4.1), jR0, q4.2)) (by decide +kernel) rfl lk_10_54 mo_Model_siteAt mv_Model_siteAt ⟨Nat.le_of_ble_eq_true rfl, Nat.le_of_ble_eq_true rfl⟩ rfl rfl kz_93 (by decide) rfl (Nat.le_of_ble_eq_true rfl) ⟨Nat.le_refl _, Nat.le_refl _⟩ hG (e_Model_siteAt hG hq4) ?_
        refine ev_seg (o := 10) (nL := 9) (q := 55) (xs := [(.i2l, 1, 0, 0, .null), (.lmul, 1, 0, 0, .null), (.lstore 5, 2, 5, 0, .null), (.aload_n 0, 1, 0, 0, .null), (.getfield 329, 3, 10, 20, .long 0), (.lload 5, 2, 5, 0, .null)]) (L' := [some (.ref 93), some (.int x1), some (.int x2), some (.int x3), some (.int x4), some (.long ((q3.2 93 21) * (Int32.toInt64 q4.1))), none, none, none]) (st' := [.long ((q3.2 93 21) * (Int32.toInt64 q4.1)), .long (q4.2.2 93 20)]) (w' := q4.2) (g := []) (K := [(93, 10)]) (by decide +kernel) rfl rfl rfl rfl (jk1 kz_93 jk0) ?_
        obtain ⟨q5, hq5, h⟩ := jbe h
        refine ev_callS (y2 := y_Model_common) (o := 10) (idx := 325) (d2 := d_Model_common) (n := 2) (mc2 := 0) (ms2 := 0) (As := [.long (q4.2.2 93 20), .long ((q3.2 93 21) * (Int32.toInt64 q4.1))]) (st := []) (res2 := (some (.long q5.1), jR0, q5.2)) (by decide +kernel) rfl lk_10_325 mo_Model_common ms_Model_common ⟨Nat.le_of_ble_eq_true rfl, Nat.le_of_ble_eq_true rfl⟩ rfl rfl (Nat.le_of_ble_eq_true rfl) ⟨Nat.le_refl _, Nat.le_refl _⟩ hG (e_Model_common hG hq5) ?_
        refine ev_seg (o := 10) (nL := 9) (q := 62) (xs := [(.lstore 7, 2, 7, 0, .null), (.iload 4, 2, 4, 0, .null)]) (L' := [some (.ref 93), some (.int x1), some (.int x2), some (.int x3), some (.int x4), some (.long ((q3.2 93 21) * (Int32.toInt64 q4.1))), none, some (.long q5.1), none]) (st' := [.int x4]) (w' := q5.2) (g := []) (K := []) (by decide +kernel) rfl rfl rfl rfl jk0 ?_
        refine ev_if_eq (off := 11) (tgt := 73) (by decide +kernel) (by decide) (fun c8 => ?_) (fun c8 => ?_)
        · replace h := jpos c8 h
          obtain ⟨hg6, h⟩ := jgd h
          refine ev_seg (o := 10) (nL := 9) (q := 80) (xs := [(.aload_n 0, 1, 0, 0, .null), (.getfield 329, 3, 10, 20, .long 0), (.lload 7, 2, 7, 0, .null), (.ldiv, 1, 0, 0, .null)]) (L' := [some (.ref 93), some (.int x1), some (.int x2), some (.int x3), some (.int x4), some (.long ((q3.2 93 21) * (Int32.toInt64 q4.1))), none, some (.long q5.1), none]) (st' := [.long ((q5.2.2 93 20) / q5.1)]) (w' := q5.2) (g := [!(q5.1 == 0)]) (K := [(93, 10)]) (by decide +kernel) rfl rfl rfl hg6 (jk1 kz_93 jk0) ?_
          cases h
          exact ev_lret (by decide +kernel) rfl rfl rfl rfl
        · replace h := jneg c8 h
          obtain ⟨hg7, h⟩ := jgd h
          refine ev_seg (o := 10) (nL := 9) (q := 80) (xs := [(.lload 5, 2, 5, 0, .null), (.lload 7, 2, 7, 0, .null), (.ldiv, 1, 0, 0, .null), (.goto 10, 3, 0, 0, .null)]) (L' := [some (.ref 93), some (.int x1), some (.int x2), some (.int x3), some (.int x4), some (.long ((q3.2 93 21) * (Int32.toInt64 q4.1))), none, some (.long q5.1), none]) (st' := [.long (((q3.2 93 21) * (Int32.toInt64 q4.1)) / q5.1)]) (w' := q5.2) (g := [!(q5.1 == 0)]) (K := []) (by decide +kernel) rfl rfl rfl hg7 jk0 ?_
          cases h
          exact ev_lret (by decide +kernel) rfl rfl rfl rfl
      · replace h := jpos c9 h
        refine ev_seg (o := 10) (nL := 9) (q := 28) (xs := [(.ldc2_w 338, 3, 0, 0, .long (-1))]) (L' := [some (.ref 93), some (.int x1), some (.int x2), some (.int x3), some (.int x4), none, none, none, none]) (st' := [.long (-1)]) (w' := q2.2) (g := []) (K := []) (by decide +kernel) rfl rfl rfl rfl jk0 ?_
        cases h
        exact ev_lret (by decide +kernel) rfl rfl rfl rfl
def f_Model_proof_h157 (k145 : Int32 → Int32 → Int32 → Int32 → Int64 → Int32 → jW → Option (Int32 × jW)) : Nat → Int32 → Int32 → Int32 → Int32 → Int64 → Int32 → Int32 → Int32 → jW → Option (Int32 × jW)
  | 0, _, _, _, _, _, _, _, _, _ => none
  | n + 1, x1, x2, x8, x9, x10, x12, x13, x14, w =>
  if x14 < x8 then
    if jal [jin x13 5, jin x14 5] = true then
    if (w.1 101 (Int32.toNatClampNeg x14)) ≤ (w.1 101 (Int32.toNatClampNeg x13)) then
      (f_Model_proof_h157 k145 n) x1 x2 x8 x9 x10 x12 x13 (x14 + 1) w
    else
      (f_Model_proof_h157 k145 n) x1 x2 x8 x9 x10 x12 x14 (x14 + 1) w
    else none
  else
    if jal [jin x13 5, jin x13 5] = true then
    jlw ((jup w.1 101 (Int32.toNatClampNeg x13) (-1)), w.2) fun w5 =>
    k145 x1 x2 x8 x9 (x10 + (Int32.toInt64 (w.1 101 (Int32.toNatClampNeg x13)))) (x12 + 1) w5
    else none
set_option maxRecDepth 20000 in
theorem t_Model_proof_h157 {l : Launch} {G : jG} (hG : jX G) {k145 : Int32 → Int32 → Int32 → Int32 → Int64 → Int32 → jW → Option (Int32 × jW)} (hk145 : ∀ (x1 : Int32) (x2 : Int32) (x8 : Int32) (x9 : Int32) (x10 : Int64) (x12 : Int32) (w : jW) (z : (Int32 × jW)), k145 x1 x2 x8 x9 x10 x12 w = some z → Ev l G (jrm d_Model_proof 0 0) y_Model_proof (some (.int z.1), jR0, z.2) 0 0 0 0 145 [some (.ref 93), some (.int x1), some (.int x2), none, none, none, none, none, some (.int x8), some (.int x9), some (.long x10), none, some (.int x12), none, none] [] jR0 w) : ∀ (n : Nat) (x1 : Int32) (x2 : Int32) (x8 : Int32) (x9 : Int32) (x10 : Int64) (x12 : Int32) (x13 : Int32) (x14 : Int32) (w : jW) (z : (Int32 × jW)), f_Model_proof_h157 k145 n x1 x2 x8 x9 x10 x12 x13 x14 w = some z → Ev l G (jrm d_Model_proof 0 0) y_Model_proof (some (.int z.1), jR0, z.2) 0 0 0 0 157 [some (.ref 93), some (.int x1), some (.int x2), none, none, none, none, none, some (.int x8), some (.int x9), some (.long x10), none, some (.int x12), some (.int x13), some (.int x14)] [] jR0 w := by
  intro n
  induction n with
  | zero => intro x1 x2 x8 x9 x10 x12 x13 x14 w z h; simp only [f_Model_proof_h157] at h; cases h
  | succ n ih =>
    intro x1 x2 x8 x9 x10 x12 x13 x14 w z h
    rw [f_Model_proof_h157] at h
    refine ev_seg (o := 10) (nL := 15) (q := 161) (xs := [(.iload 14, 2, 14, 0, .null), (.iload 8, 2, 8, 0, .null)]) (L' := [some (.ref 93), some (.int x1), some (.int x2), none, none, none, none, none, some (.int x8), some (.int x9), some (.long x10), none, some (.int x12), some (.int x13), some (.int x14)]) (st' := [.int x8, .int x14]) (w' := w) (g := []) (K := []) (by decide +kernel) rfl rfl rfl rfl jk0 ?_
    refine ev_icmp_ge (off := 30) (tgt := 191) (by decide +kernel) (by decide) (fun c8 => ?_) (fun c8 => ?_)
    · replace h := jneg c8 h
      obtain ⟨hg4, h⟩ := jgd h
      refine ev_seg (o := 10) (nL := 15) (q := 212) (xs := [(.lload 10, 2, 10, 0, .null), (.aload_n 0, 1, 0, 0, .null), (.getfield 39, 3, 10, 22, .ref 20), (.iload 13, 2, 13, 0, .null), (.iaload, 1, 0, 0, .null), (.i2l, 1, 0, 0, .null), (.ladd, 1, 0, 0, .null), (.lstore 10, 2, 10, 0, .null), (.aload_n 0, 1, 0, 0, .null), (.getfield 39, 3, 10, 22, .ref 20), (.iload 13, 2, 13, 0, .null), (.iconst (-1), 1, 0, 0, .int (-1)), (.iastore, 1, 0, 0, .null)]) (L' := [some (.ref 93), some (.int x1), some (.int x2), none, none, none, none, none, some (.int x8), some (.int x9), some (.long (x10 + (Int32.toInt64 (w.1 101 (Int32.toNatClampNeg x13))))), none, some (.int x12), some (.int x13), some (.int x14)]) (st' := []) (w' := ((jup w.1 101 (Int32.toNatClampNeg x13) (-1)), w.2)) (g := [jin x13 5, jin x13 5]) (K := [(101, 20), (101, 20), (93, 10), (101, 20), (101, 20), (93, 10)]) (by decide +kernel) rfl rfl rfl hg4 (jk1 kz_101 (jk1 kz_101 (jk1 kz_93 (jk1 kz_101 (jk1 kz_101 (jk1 kz_93 jk0)))))) ?_
      refine jlw_c (P := fun w5 => Ev l G (jrm d_Model_proof 0 0) y_Model_proof (some (.int z.1), jR0, z.2) 0 0 0 0 212 [some (.ref 93), some (.int x1), some (.int x2), none, none, none, none, none, some (.int x8), some (.int x9), some (.long (x10 + (Int32.toInt64 (w.1 101 (Int32.toNatClampNeg x13))))), none, some (.int x12), some (.int x13), some (.int x14)] [] jR0 w5) h fun w5 h => ?_
      refine ev_seg (o := 10) (nL := 15) (q := 145) (xs := [(.iinc 12 1, 3, 12, 0, .int 1), (.goto (-70), 3, 0, 0, .null)]) (L' := [some (.ref 93), some (.int x1), some (.int x2), none, none, none, none, none, some (.int x8), some (.int x9), some (.long (x10 + (Int32.toInt64 (w.1 101 (Int32.toNatClampNeg x13))))), none, some (.int (x12 + 1)), some (.int x13), some (.int x14)]) (st' := []) (w' := w5) (g := []) (K := []) (by decide +kernel) rfl rfl rfl rfl jk0 ?_
      refine ev_mask [true, true, true, false, false, false, false, false, true, true, true, false, true, false, false] ?_
      exact hk145 _ _ _ _ _ _ _ _ h
    · replace h := jpos c8 h
      obtain ⟨hg6, h⟩ := jgd h
      refine ev_seg (o := 10) (nL := 15) (q := 178) (xs := [(.aload_n 0, 1, 0, 0, .null), (.getfield 39, 3, 10, 22, .ref 20), (.iload 14, 2, 14, 0, .null), (.iaload, 1, 0, 0, .null), (.aload_n 0, 1, 0, 0, .null), (.getfield 39, 3, 10, 22, .ref 20), (.iload 13, 2, 13, 0, .null), (.iaload, 1, 0, 0, .null)]) (L' := [some (.ref 93), some (.int x1), some (.int x2), none, none, none, none, none, some (.int x8), some (.int x9), some (.long x10), none, some (.int x12), some (.int x13), some (.int x14)]) (st' := [.int (w.1 101 (Int32.toNatClampNeg x13)), .int (w.1 101 (Int32.toNatClampNeg x14))]) (w' := w) (g := [jin x13 5, jin x14 5]) (K := [(101, 20), (101, 20), (93, 10), (101, 20), (101, 20), (93, 10)]) (by decide +kernel) rfl rfl rfl hg6 (jk1 kz_101 (jk1 kz_101 (jk1 kz_93 (jk1 kz_101 (jk1 kz_101 (jk1 kz_93 jk0)))))) ?_
      refine ev_icmp_le (off := 7) (tgt := 185) (by decide +kernel) (by decide) (fun c7 => ?_) (fun c7 => ?_)
      · replace h := jpos c7 h
        refine ev_seg (o := 10) (nL := 15) (q := 157) (xs := [(.iinc 14 1, 3, 14, 0, .int 1), (.goto (-31), 3, 0, 0, .null)]) (L' := [some (.ref 93), some (.int x1), some (.int x2), none, none, none, none, none, some (.int x8), some (.int x9), some (.long x10), none, some (.int x12), some (.int x13), some (.int (x14 + 1))]) (st' := []) (w' := w) (g := []) (K := []) (by decide +kernel) rfl rfl rfl rfl jk0 ?_
        refine ev_mask [true, true, true, false, false, false, false, false, true, true, true, false, true, true, true] ?_
        exact ih _ _ _ _ _ _ _ _ _ _ h
      · replace h := jneg c7 h
        refine ev_seg (o := 10) (nL := 15) (q := 157) (xs := [(.iload 14, 2, 14, 0, .null), (.istore 13, 2, 13, 0, .null), (.iinc 14 1, 3, 14, 0, .int 1), (.goto (-31), 3, 0, 0, .null)]) (L' := [some (.ref 93), some (.int x1), some (.int x2), none, none, none, none, none, some (.int x8), some (.int x9), some (.long x10), none, some (.int x12), some (.int x14), some (.int (x14 + 1))]) (st' := []) (w' := w) (g := []) (K := []) (by decide +kernel) rfl rfl rfl rfl jk0 ?_
        refine ev_mask [true, true, true, false, false, false, false, false, true, true, true, false, true, true, true] ?_
        exact ih _ _ _ _ _ _ _ _ _ _ h
def f_Model_proof_h145 : Nat → Int32 → Int32 → Int32 → Int32 → Int64 → Int32 → jW → Option (Int32 × jW)
  | 0, _, _, _, _, _, _, _ => none
  | n + 1, x1, x2, x8, x9, x10, x12, w =>
  if x12 < x2 then
    f_Model_proof_h157 (f_Model_proof_h145 n) jfu x1 x2 x8 x9 x10 x12 0 0 w
  else
    Option.bind (f_Model_valueOf x1 x2 w) fun q2 =>
    if (lg_cmp (x10 * (q2.2 93 21)) ((q2.2 93 20) * (Int32.toInt64 x9))) = 0 then
      some (0, q2)
    else
      some (1, q2)
set_option maxRecDepth 20000 in
theorem t_Model_proof_h145 {l : Launch} {G : jG} (hG : jX G) : ∀ (n : Nat) (x1 : Int32) (x2 : Int32) (x8 : Int32) (x9 : Int32) (x10 : Int64) (x12 : Int32) (w : jW) (z : (Int32 × jW)), f_Model_proof_h145 n x1 x2 x8 x9 x10 x12 w = some z → Ev l G (jrm d_Model_proof 0 0) y_Model_proof (some (.int z.1), jR0, z.2) 0 0 0 0 145 [some (.ref 93), some (.int x1), some (.int x2), none, none, none, none, none, some (.int x8), some (.int x9), some (.long x10), none, some (.int x12), none, none] [] jR0 w := by
  intro n
  induction n with
  | zero => intro x1 x2 x8 x9 x10 x12 w z h; simp only [f_Model_proof_h145] at h; cases h
  | succ n ih =>
    intro x1 x2 x8 x9 x10 x12 w z h
    rw [f_Model_proof_h145] at h
    refine ev_seg (o := 10) (nL := 15) (q := 148) (xs := [(.iload 12, 2, 12, 0, .null), (.iload_n 2, 1, 2, 0, .null)]) (L' := [some (.ref 93), some (.int x1), some (.int x2), none, none, none, none, none, some (.int x8), some (.int x9), some (.long x10), none, some (.int x12), none, none]) (st' := [.int x2, .int x12]) (w' := w) (g := []) (K := []) (by decide +kernel) rfl rfl rfl rfl jk0 ?_
    refine ev_icmp_ge (off := 70) (tgt := 218) (by decide +kernel) (by decide) (fun c9 => ?_) (fun c9 => ?_)
    · replace h := jneg c9 h
      refine ev_seg (o := 10) (nL := 15) (q := 221) (xs := [(.aload_n 0, 1, 0, 0, .null), (.iload_n 1, 1, 1, 0, .null), (.iload_n 2, 1, 2, 0, .null)]) (L' := [some (.ref 93), some (.int x1), some (.int x2), none, none, none, none, none, some (.int x8), some (.int x9), some (.long x10), none, some (.int x12), none, none]) (st' := [.int x2, .int x1, .ref 93]) (w' := w) (g := []) (K := []) (by decide +kernel) rfl rfl rfl rfl jk0 ?_
      obtain ⟨q2, hq2, h⟩ := jbe h
      refine ev_callV (ci := 10) (a := 93) (y2 := y_Model_valueOf) (o := 10) (idx := 340) (d2 := d_Model_valueOf) (n := 2) (mc2 := 0) (ms2 := 0) (As := [.int x1, .int x2]) (st := []) (res2 := (none, jR0, q2)) (by decide +kernel) rfl lk_10_340 mo_Model_valueOf mv_Model_valueOf ⟨Nat.le_of_ble_eq_true rfl, Nat.le_of_ble_eq_true rfl⟩ rfl rfl kz_93 (by decide) rfl (Nat.le_of_ble_eq_true rfl) ⟨Nat.le_refl _, Nat.le_refl _⟩ hG (e_Model_valueOf hG hq2) ?_
      refine ev_seg (o := 10) (nL := 15) (q := 240) (xs := [(.lload 10, 2, 10, 0, .null), (.aload_n 0, 1, 0, 0, .null), (.getfield 332, 3, 10, 21, .long 0), (.lmul, 1, 0, 0, .null), (.aload_n 0, 1, 0, 0, .null), (.getfield 329, 3, 10, 20, .long 0), (.iload 9, 2, 9, 0, .null), (.i2l, 1, 0, 0, .null), (.lmul, 1, 0, 0, .null), (.lcmp, 1, 0, 0, .null)]) (L' := [some (.ref 93), some (.int x1), some (.int x2), none, none, none, none, none, some (.int x8), some (.int x9), some (.long x10), none, some (.int x12), none, none]) (st' := [.int (lg_cmp (x10 * (q2.2 93 21)) ((q2.2 93 20) * (Int32.toInt64 x9)))]) (w' := q2) (g := []) (K := [(93, 10), (93, 10)]) (by decide +kernel) rfl rfl rfl rfl (jk1 kz_93 (jk1 kz_93 jk0)) ?_
      refine ev_if_ne (off := 7) (tgt := 247) (by decide +kernel) (by decide) (fun c3 => ?_) (fun c3 => ?_)
      · replace h := jneg c3 h
        refine ev_seg (o := 10) (nL := 15) (q := 248) (xs := [(.iconst 1, 1, 0, 0, .int 1)]) (L' := [some (.ref 93), some (.int x1), some (.int x2), none, none, none, none, none, some (.int x8), some (.int x9), some (.long x10), none, some (.int x12), none, none]) (st' := [.int 1]) (w' := q2) (g := []) (K := []) (by decide +kernel) rfl rfl rfl rfl jk0 ?_
        cases h
        exact ev_iret (by decide +kernel) rfl rfl rfl rfl
      · replace h := jpos c3 h
        refine ev_seg (o := 10) (nL := 15) (q := 248) (xs := [(.iconst 0, 1, 0, 0, .int 0), (.goto 4, 3, 0, 0, .null)]) (L' := [some (.ref 93), some (.int x1), some (.int x2), none, none, none, none, none, some (.int x8), some (.int x9), some (.long x10), none, some (.int x12), none, none]) (st' := [.int 0]) (w' := q2) (g := []) (K := []) (by decide +kernel) rfl rfl rfl rfl jk0 ?_
        cases h
        exact ev_iret (by decide +kernel) rfl rfl rfl rfl
    · replace h := jpos c9 h
      refine ev_seg (o := 10) (nL := 15) (q := 157) (xs := [(.iconst 0, 1, 0, 0, .int 0), (.istore 13, 2, 13, 0, .null), (.iconst 0, 1, 0, 0, .int 0), (.istore 14, 2, 14, 0, .null)]) (L' := [some (.ref 93), some (.int x1), some (.int x2), none, none, none, none, none, some (.int x8), some (.int x9), some (.long x10), none, some (.int x12), some (.int 0), some (.int 0)]) (st' := []) (w' := w) (g := []) (K := []) (by decide +kernel) rfl rfl rfl rfl jk0 ?_
      refine ev_mask [true, true, true, false, false, false, false, false, true, true, true, false, true, true, true] ?_
      exact t_Model_proof_h157 hG ih jfu _ _ _ _ _ _ _ _ _ _ h
def f_Model_proof_j83 (k20 : Int32 → Int32 → Int32 → Int32 → Int32 → Int32 → Int32 → Int32 → Int32 → Int32 → jW → Option (Int32 × jW)) (x1 : Int32) (x2 : Int32) (x3 : Int32) (x4 : Int32) (x5 : Int32) (x6 : Int32) (x7 : Int32) (x8 : Int32) (x9 : Int32) (x10 : Int32) (s0 : Int32) (w : jW) : Option (Int32 × jW) :=
  Option.bind (f_Model_isIn s0 0 999 w) fun q11 =>
  if q11.1 = 0 then
    some ((-1), q11.2)
  else
    Option.bind (f_Model_siteAt x10 4 q11.2) fun q12 =>
    if jal [jin x8 5] = true then
    jlw ((jup q12.2.1 101 (Int32.toNatClampNeg x8) (s0 * q12.1)), q12.2.2) fun w14 =>
    k20 x1 x2 x3 x4 x5 x6 x7 (x8 + 1) (x9 + s0) (x10 + 1) w14
    else none
set_option maxRecDepth 20000 in
theorem t_Model_proof_j83 {l : Launch} {G : jG} (hG : jX G) {k20 : Int32 → Int32 → Int32 → Int32 → Int32 → Int32 → Int32 → Int32 → Int32 → Int32 → jW → Option (Int32 × jW)} (hk20 : ∀ (x1 : Int32) (x2 : Int32) (x3 : Int32) (x4 : Int32) (x5 : Int32) (x6 : Int32) (x7 : Int32) (x8 : Int32) (x9 : Int32) (x10 : Int32) (w : jW) (z : (Int32 × jW)), k20 x1 x2 x3 x4 x5 x6 x7 x8 x9 x10 w = some z → Ev l G (jrm d_Model_proof 0 0) y_Model_proof (some (.int z.1), jR0, z.2) 0 0 0 0 20 [some (.ref 93), some (.int x1), some (.int x2), some (.int x3), some (.int x4), some (.int x5), some (.int x6), some (.int x7), some (.int x8), some (.int x9), some (.int x10), none, none, none, none] [] jR0 w) {x1 : Int32} {x2 : Int32} {x3 : Int32} {x4 : Int32} {x5 : Int32} {x6 : Int32} {x7 : Int32} {x8 : Int32} {x9 : Int32} {x10 : Int32} {s0 : Int32} {w : jW} {z : (Int32 × jW)} (h : f_Model_proof_j83 k20 x1 x2 x3 x4 x5 x6 x7 x8 x9 x10 s0 w = some z) : Ev l G (jrm d_Model_proof 0 0) y_Model_proof (some (.int z.1), jR0, z.2) 0 0 0 0 83 [some (.ref 93), some (.int x1), some (.int x2), some (.int x3), some (.int x4), some (.int x5), some (.int x6), some (.int x7), some (.int x8), some (.int x9), some (.int x10), none, none, none, none] [.int s0] jR0 w := by
  rw [f_Model_proof_j83] at h
  refine ev_seg (o := 10) (nL := 15) (q := 91) (xs := [(.istore 11, 2, 11, 0, .null), (.iload 11, 2, 11, 0, .null), (.iconst 0, 1, 0, 0, .int 0), (.sipush 999, 3, 0, 0, .int 999)]) (L' := [some (.ref 93), some (.int x1), some (.int x2), some (.int x3), some (.int x4), some (.int x5), some (.int x6), some (.int x7), some (.int x8), some (.int x9), some (.int x10), some (.int s0), none, none, none]) (st' := [.int 999, .int 0, .int s0]) (w' := w) (g := []) (K := []) (by decide +kernel) rfl rfl rfl rfl jk0 ?_
  obtain ⟨q11, hq11, h⟩ := jbe h
  refine ev_callS (y2 := y_Model_isIn) (o := 10) (idx := 46) (d2 := d_Model_isIn) (n := 3) (mc2 := 0) (ms2 := 0) (As := [.int s0, .int 0, .int 999]) (st := []) (res2 := (some (.int q11.1), jR0, q11.2)) (by decide +kernel) rfl lk_10_46 mo_Model_isIn ms_Model_isIn ⟨Nat.le_of_ble_eq_true rfl, Nat.le_of_ble_eq_true rfl⟩ rfl rfl (Nat.le_of_ble_eq_true rfl) ⟨Nat.le_refl _, Nat.le_refl _⟩ hG (e_Model_isIn hG hq11) ?_
  refine ev_if_ne (off := 5) (tgt := 99) (by decide +kernel) (by decide) (fun c15 => ?_) (fun c15 => ?_)
  · replace h := jneg c15 h
    refine ev_seg (o := 10) (nL := 15) (q := 111) (xs := [(.aload_n 0, 1, 0, 0, .null), (.getfield 39, 3, 10, 22, .ref 20), (.iload 8, 2, 8, 0, .null), (.iload 11, 2, 11, 0, .null), (.aload_n 0, 1, 0, 0, .null), (.iload 10, 2, 10, 0, .null), (.iconst 4, 1, 0, 0, .int 4)]) (L' := [some (.ref 93), some (.int x1), some (.int x2), some (.int x3), some (.int x4), some (.int x5), some (.int x6), some (.int x7), some (.int x8), some (.int x9), some (.int x10), some (.int s0), none, none, none]) (st' := [.int 4, .int x10, .ref 93, .int s0, .int x8, .ref 101]) (w' := q11.2) (g := []) (K := [(101, 20), (93, 10)]) (by decide +kernel) rfl rfl rfl rfl (jk1 kz_101 (jk1 kz_93 jk0)) ?_
    obtain ⟨q12, hq12, h⟩ := jbe h
    refine ev_callV (ci := 10) (a := 93) (y2 := y_Model_siteAt) (o := 10) (idx := 54) (d2 := d_Model_siteAt) (n := 2) (mc2 := 0) (ms2 := 0) (As := [.int x10, .int 4]) (st := [.int s0, .int x8, .ref 101]) (res2 := (some (.int q12.1), jR0, q12.2)) (by decide +kernel) rfl lk_10_54 mo_Model_siteAt mv_Model_siteAt ⟨Nat.le_of_ble_eq_true rfl, Nat.le_of_ble_eq_true rfl⟩ rfl rfl kz_93 (by decide) rfl (Nat.le_of_ble_eq_true rfl) ⟨Nat.le_refl _, Nat.le_refl _⟩ hG (e_Model_siteAt hG hq12) ?_
    obtain ⟨hg13, h⟩ := jgd h
    refine ev_seg (o := 10) (nL := 15) (q := 116) (xs := [(.imul, 1, 0, 0, .null), (.iastore, 1, 0, 0, .null)]) (L' := [some (.ref 93), some (.int x1), some (.int x2), some (.int x3), some (.int x4), some (.int x5), some (.int x6), some (.int x7), some (.int x8), some (.int x9), some (.int x10), some (.int s0), none, none, none]) (st' := []) (w' := ((jup q12.2.1 101 (Int32.toNatClampNeg x8) (s0 * q12.1)), q12.2.2)) (g := [jin x8 5]) (K := [(101, 20)]) (by decide +kernel) rfl rfl rfl hg13 (jk1 kz_101 jk0) ?_
    refine jlw_c (P := fun w14 => Ev l G (jrm d_Model_proof 0 0) y_Model_proof (some (.int z.1), jR0, z.2) 0 0 0 0 116 [some (.ref 93), some (.int x1), some (.int x2), some (.int x3), some (.int x4), some (.int x5), some (.int x6), some (.int x7), some (.int x8), some (.int x9), some (.int x10), some (.int s0), none, none, none] [] jR0 w14) h fun w14 h => ?_
    refine ev_seg (o := 10) (nL := 15) (q := 20) (xs := [(.iload 9, 2, 9, 0, .null), (.iload 11, 2, 11, 0, .null), (.iadd, 1, 0, 0, .null), (.istore 9, 2, 9, 0, .null), (.iinc 8 1, 3, 8, 0, .int 1), (.iinc 10 1, 3, 10, 0, .int 1), (.goto (-109), 3, 0, 0, .null)]) (L' := [some (.ref 93), some (.int x1), some (.int x2), some (.int x3), some (.int x4), some (.int x5), some (.int x6), some (.int x7), some (.int (x8 + 1)), some (.int (x9 + s0)), some (.int (x10 + 1)), some (.int s0), none, none, none]) (st' := []) (w' := w14) (g := []) (K := []) (by decide +kernel) rfl rfl rfl rfl jk0 ?_
    refine ev_mask [true, true, true, true, true, true, true, true, true, true, true, false, false, false, false] ?_
    exact hk20 _ _ _ _ _ _ _ _ _ _ _ _ h
  · replace h := jpos c15 h
    refine ev_seg (o := 10) (nL := 15) (q := 98) (xs := [(.iconst (-1), 1, 0, 0, .int (-1))]) (L' := [some (.ref 93), some (.int x1), some (.int x2), some (.int x3), some (.int x4), some (.int x5), some (.int x6), some (.int x7), some (.int x8), some (.int x9), some (.int x10), some (.int s0), none, none, none]) (st' := [.int (-1)]) (w' := q11.2) (g := []) (K := []) (by decide +kernel) rfl rfl rfl rfl jk0 ?_
    cases h
    exact ev_iret (by decide +kernel) rfl rfl rfl rfl
def f_Model_proof_h20 : Nat → Int32 → Int32 → Int32 → Int32 → Int32 → Int32 → Int32 → Int32 → Int32 → Int32 → jW → Option (Int32 × jW)
  | 0, _, _, _, _, _, _, _, _, _, _, _ => none
  | n + 1, x1, x2, x3, x4, x5, x6, x7, x8, x9, x10, w =>
  if x10 < 10 then
    if ((x1 >>> (x10 &&& 31)) &&& 1) = 0 then
      (f_Model_proof_h20 n) x1 x2 x3 x4 x5 x6 x7 x8 x9 (x10 + 1) w
    else
      if x8 = 0 then
        f_Model_proof_j83 (f_Model_proof_h20 n) x1 x2 x3 x4 x5 x6 x7 x8 x9 x10 x3 w
      else
        if x8 = 1 then
          f_Model_proof_j83 (f_Model_proof_h20 n) x1 x2 x3 x4 x5 x6 x7 x8 x9 x10 x4 w
        else
          if x8 = 2 then
            f_Model_proof_j83 (f_Model_proof_h20 n) x1 x2 x3 x4 x5 x6 x7 x8 x9 x10 x5 w
          else
            if x8 = 3 then
              f_Model_proof_j83 (f_Model_proof_h20 n) x1 x2 x3 x4 x5 x6 x7 x8 x9 x10 x6 w
            else
              f_Model_proof_j83 (f_Model_proof_h20 n) x1 x2 x3 x4 x5 x6 x7 x8 x9 x10 x7 w
  else
    if x9 = 0 then
      some ((-1), w)
    else
      f_Model_proof_h145 jfu x1 x2 x8 x9 0 0 w
set_option maxRecDepth 20000 in
theorem t_Model_proof_h20 {l : Launch} {G : jG} (hG : jX G) : ∀ (n : Nat) (x1 : Int32) (x2 : Int32) (x3 : Int32) (x4 : Int32) (x5 : Int32) (x6 : Int32) (x7 : Int32) (x8 : Int32) (x9 : Int32) (x10 : Int32) (w : jW) (z : (Int32 × jW)), f_Model_proof_h20 n x1 x2 x3 x4 x5 x6 x7 x8 x9 x10 w = some z → Ev l G (jrm d_Model_proof 0 0) y_Model_proof (some (.int z.1), jR0, z.2) 0 0 0 0 20 [some (.ref 93), some (.int x1), some (.int x2), some (.int x3), some (.int x4), some (.int x5), some (.int x6), some (.int x7), some (.int x8), some (.int x9), some (.int x10), none, none, none, none] [] jR0 w := by
  intro n
  induction n with
  | zero => intro x1 x2 x3 x4 x5 x6 x7 x8 x9 x10 w z h; simp only [f_Model_proof_h20] at h; cases h
  | succ n ih =>
    intro x1 x2 x3 x4 x5 x6 x7 x8 x9 x10 w z h
    rw [f_Model_proof_h20] at h
    refine ev_seg (o := 10) (nL := 15) (q := 24) (xs := [(.iload 10, 2, 10, 0, .null), (.bipush 10, 2, 0, 0, .int 10)]) (L' := [some (.ref 93), some (.int x1), some (.int x2), some (.int x3), some (.int x4), some (.int x5), some (.int x6), some (.int x7), some (.int x8), some (.int x9), some (.int x10), none, none, none, none]) (st' := [.int 10, .int x10]) (w' := w) (g := []) (K := []) (by decide +kernel) rfl rfl rfl rfl jk0 ?_
    refine ev_icmp_ge (off := 108) (tgt := 132) (by decide +kernel) (by decide) (fun c21 => ?_) (fun c21 => ?_)
    · replace h := jneg c21 h
      refine ev_seg (o := 10) (nL := 15) (q := 134) (xs := [(.iload 9, 2, 9, 0, .null)]) (L' := [some (.ref 93), some (.int x1), some (.int x2), some (.int x3), some (.int x4), some (.int x5), some (.int x6), some (.int x7), some (.int x8), some (.int x9), some (.int x10), none, none, none, none]) (st' := [.int x9]) (w' := w) (g := []) (K := []) (by decide +kernel) rfl rfl rfl rfl jk0 ?_
      refine ev_if_ne (off := 5) (tgt := 139) (by decide +kernel) (by decide) (fun c10 => ?_) (fun c10 => ?_)
      · replace h := jneg c10 h
        refine ev_seg (o := 10) (nL := 15) (q := 145) (xs := [(.lconst 0, 1, 0, 0, .long 0), (.lstore 10, 2, 10, 0, .null), (.iconst 0, 1, 0, 0, .int 0), (.istore 12, 2, 12, 0, .null)]) (L' := [some (.ref 93), some (.int x1), some (.int x2), some (.int x3), some (.int x4), some (.int x5), some (.int x6), some (.int x7), some (.int x8), some (.int x9), some (.long 0), none, some (.int 0), none, none]) (st' := []) (w' := w) (g := []) (K := []) (by decide +kernel) rfl rfl rfl rfl jk0 ?_
        refine ev_mask [true, true, true, false, false, false, false, false, true, true, true, false, true, false, false] ?_
        exact t_Model_proof_h145 hG jfu _ _ _ _ _ _ _ _ h
      · replace h := jpos c10 h
        refine ev_seg (o := 10) (nL := 15) (q := 138) (xs := [(.iconst (-1), 1, 0, 0, .int (-1))]) (L' := [some (.ref 93), some (.int x1), some (.int x2), some (.int x3), some (.int x4), some (.int x5), some (.int x6), some (.int x7), some (.int x8), some (.int x9), some (.int x10), none, none, none, none]) (st' := [.int (-1)]) (w' := w) (g := []) (K := []) (by decide +kernel) rfl rfl rfl rfl jk0 ?_
        cases h
        exact ev_iret (by decide +kernel) rfl rfl rfl rfl
    · replace h := jpos c21 h
      refine ev_seg (o := 10) (nL := 15) (q := 33) (xs := [(.iload_n 1, 1, 1, 0, .null), (.iload 10, 2, 10, 0, .null), (.ishr, 1, 0, 0, .null), (.iconst 1, 1, 0, 0, .int 1), (.iand, 1, 0, 0, .null)]) (L' := [some (.ref 93), some (.int x1), some (.int x2), some (.int x3), some (.int x4), some (.int x5), some (.int x6), some (.int x7), some (.int x8), some (.int x9), some (.int x10), none, none, none, none]) (st' := [.int ((x1 >>> (x10 &&& 31)) &&& 1)]) (w' := w) (g := []) (K := []) (by decide +kernel) rfl rfl rfl rfl jk0 ?_
      refine ev_if_ne (off := 6) (tgt := 39) (by decide +kernel) (by decide) (fun c20 => ?_) (fun c20 => ?_)
      · replace h := jneg c20 h
        refine ev_seg (o := 10) (nL := 15) (q := 41) (xs := [(.iload 8, 2, 8, 0, .null)]) (L' := [some (.ref 93), some (.int x1), some (.int x2), some (.int x3), some (.int x4), some (.int x5), some (.int x6), some (.int x7), some (.int x8), some (.int x9), some (.int x10), none, none, none, none]) (st' := [.int x8]) (w' := w) (g := []) (K := []) (by decide +kernel) rfl rfl rfl rfl jk0 ?_
        refine ev_if_ne (off := 7) (tgt := 48) (by decide +kernel) (by decide) (fun c19 => ?_) (fun c19 => ?_)
        · replace h := jneg c19 h
          refine ev_seg (o := 10) (nL := 15) (q := 51) (xs := [(.iload 8, 2, 8, 0, .null), (.iconst 1, 1, 0, 0, .int 1)]) (L' := [some (.ref 93), some (.int x1), some (.int x2), some (.int x3), some (.int x4), some (.int x5), some (.int x6), some (.int x7), some (.int x8), some (.int x9), some (.int x10), none, none, none, none]) (st' := [.int 1, .int x8]) (w' := w) (g := []) (K := []) (by decide +kernel) rfl rfl rfl rfl jk0 ?_
          refine ev_icmp_ne (off := 8) (tgt := 59) (by decide +kernel) (by decide) (fun c18 => ?_) (fun c18 => ?_)
          · replace h := jneg c18 h
            refine ev_seg (o := 10) (nL := 15) (q := 62) (xs := [(.iload 8, 2, 8, 0, .null), (.iconst 2, 1, 0, 0, .int 2)]) (L' := [some (.ref 93), some (.int x1), some (.int x2), some (.int x3), some (.int x4), some (.int x5), some (.int x6), some (.int x7), some (.int x8), some (.int x9), some (.int x10), none, none, none, none]) (st' := [.int 2, .int x8]) (w' := w) (g := []) (K := []) (by decide +kernel) rfl rfl rfl rfl jk0 ?_
            refine ev_icmp_ne (off := 8) (tgt := 70) (by decide +kernel) (by decide) (fun c17 => ?_) (fun c17 => ?_)
            · replace h := jneg c17 h
              refine ev_seg (o := 10) (nL := 15) (q := 73) (xs := [(.iload 8, 2, 8, 0, .null), (.iconst 3, 1, 0, 0, .int 3)]) (L' := [some (.ref 93), some (.int x1), some (.int x2), some (.int x3), some (.int x4), some (.int x5), some (.int x6), some (.int x7), some (.int x8), some (.int x9), some (.int x10), none, none, none, none]) (st' := [.int 3, .int x8]) (w' := w) (g := []) (K := []) (by decide +kernel) rfl rfl rfl rfl jk0 ?_
              refine ev_icmp_ne (off := 8) (tgt := 81) (by decide +kernel) (by decide) (fun c16 => ?_) (fun c16 => ?_)
              · replace h := jneg c16 h
                refine ev_seg (o := 10) (nL := 15) (q := 83) (xs := [(.iload 7, 2, 7, 0, .null)]) (L' := [some (.ref 93), some (.int x1), some (.int x2), some (.int x3), some (.int x4), some (.int x5), some (.int x6), some (.int x7), some (.int x8), some (.int x9), some (.int x10), none, none, none, none]) (st' := [.int x7]) (w' := w) (g := []) (K := []) (by decide +kernel) rfl rfl rfl rfl jk0 ?_
                refine ev_mask [true, true, true, true, true, true, true, true, true, true, true, false, false, false, false] ?_
                exact t_Model_proof_j83 hG ih h
              · replace h := jpos c16 h
                refine ev_seg (o := 10) (nL := 15) (q := 83) (xs := [(.iload 6, 2, 6, 0, .null), (.goto 5, 3, 0, 0, .null)]) (L' := [some (.ref 93), some (.int x1), some (.int x2), some (.int x3), some (.int x4), some (.int x5), some (.int x6), some (.int x7), some (.int x8), some (.int x9), some (.int x10), none, none, none, none]) (st' := [.int x6]) (w' := w) (g := []) (K := []) (by decide +kernel) rfl rfl rfl rfl jk0 ?_
                refine ev_mask [true, true, true, true, true, true, true, true, true, true, true, false, false, false, false] ?_
                exact t_Model_proof_j83 hG ih h
            · replace h := jpos c17 h
              refine ev_seg (o := 10) (nL := 15) (q := 83) (xs := [(.iload 5, 2, 5, 0, .null), (.goto 16, 3, 0, 0, .null)]) (L' := [some (.ref 93), some (.int x1), some (.int x2), some (.int x3), some (.int x4), some (.int x5), some (.int x6), some (.int x7), some (.int x8), some (.int x9), some (.int x10), none, none, none, none]) (st' := [.int x5]) (w' := w) (g := []) (K := []) (by decide +kernel) rfl rfl rfl rfl jk0 ?_
              refine ev_mask [true, true, true, true, true, true, true, true, true, true, true, false, false, false, false] ?_
              exact t_Model_proof_j83 hG ih h
          · replace h := jpos c18 h
            refine ev_seg (o := 10) (nL := 15) (q := 83) (xs := [(.iload 4, 2, 4, 0, .null), (.goto 27, 3, 0, 0, .null)]) (L' := [some (.ref 93), some (.int x1), some (.int x2), some (.int x3), some (.int x4), some (.int x5), some (.int x6), some (.int x7), some (.int x8), some (.int x9), some (.int x10), none, none, none, none]) (st' := [.int x4]) (w' := w) (g := []) (K := []) (by decide +kernel) rfl rfl rfl rfl jk0 ?_
            refine ev_mask [true, true, true, true, true, true, true, true, true, true, true, false, false, false, false] ?_
            exact t_Model_proof_j83 hG ih h
        · replace h := jpos c19 h
          refine ev_seg (o := 10) (nL := 15) (q := 83) (xs := [(.iload_n 3, 1, 3, 0, .null), (.goto 38, 3, 0, 0, .null)]) (L' := [some (.ref 93), some (.int x1), some (.int x2), some (.int x3), some (.int x4), some (.int x5), some (.int x6), some (.int x7), some (.int x8), some (.int x9), some (.int x10), none, none, none, none]) (st' := [.int x3]) (w' := w) (g := []) (K := []) (by decide +kernel) rfl rfl rfl rfl jk0 ?_
          refine ev_mask [true, true, true, true, true, true, true, true, true, true, true, false, false, false, false] ?_
          exact t_Model_proof_j83 hG ih h
      · replace h := jpos c20 h
        refine ev_seg (o := 10) (nL := 15) (q := 20) (xs := [(.goto 90, 3, 0, 0, .null), (.iinc 10 1, 3, 10, 0, .int 1), (.goto (-109), 3, 0, 0, .null)]) (L' := [some (.ref 93), some (.int x1), some (.int x2), some (.int x3), some (.int x4), some (.int x5), some (.int x6), some (.int x7), some (.int x8), some (.int x9), some (.int (x10 + 1)), none, none, none, none]) (st' := []) (w' := w) (g := []) (K := []) (by decide +kernel) rfl rfl rfl rfl jk0 ?_
        refine ev_mask [true, true, true, true, true, true, true, true, true, true, true, false, false, false, false] ?_
        exact ih _ _ _ _ _ _ _ _ _ _ _ _ h
def f_Model_proof (x1 : Int32) (x2 : Int32) (x3 : Int32) (x4 : Int32) (x5 : Int32) (x6 : Int32) (x7 : Int32) (w : jW) : Option (Int32 × jW) :=
  Option.bind (f_Model_isSet x1 x2 w) fun q1 =>
  if q1.1 = 0 then
    some ((-1), q1.2)
  else
    f_Model_proof_h20 jfu x1 x2 x3 x4 x5 x6 x7 0 0 0 q1.2
set_option maxRecDepth 20000 in
theorem e_Model_proof {l : Launch} {G : jG} (hG : jX G) {x1 : Int32} {x2 : Int32} {x3 : Int32} {x4 : Int32} {x5 : Int32} {x6 : Int32} {x7 : Int32} {w : jW} {z : (Int32 × jW)} (h : f_Model_proof x1 x2 x3 x4 x5 x6 x7 w = some z) : Ct l G y_Model_proof d_Model_proof 0 0 [.ref 93, .int x1, .int x2, .int x3, .int x4, .int x5, .int x6, .int x7] jR0 w (some (.int z.1), jR0, z.2) := by
  rw [f_Model_proof] at h
  refine Ct.of (L := [some (.ref 93), some (.int x1), some (.int x2), some (.int x3), some (.int x4), some (.int x5), some (.int x6), some (.int x7), none, none, none, none, none, none, none]) (by decide) (Nat.le_of_ble_eq_true rfl) rfl ?_
  refine ev_seg (o := 10) (nL := 15) (q := 3) (xs := [(.aload_n 0, 1, 0, 0, .null), (.iload_n 1, 1, 1, 0, .null), (.iload_n 2, 1, 2, 0, .null)]) (L' := [some (.ref 93), some (.int x1), some (.int x2), some (.int x3), some (.int x4), some (.int x5), some (.int x6), some (.int x7), none, none, none, none, none, none, none]) (st' := [.int x2, .int x1, .ref 93]) (w' := w) (g := []) (K := []) (by decide +kernel) rfl rfl rfl rfl jk0 ?_
  obtain ⟨q1, hq1, h⟩ := jbe h
  refine ev_callV (ci := 10) (a := 93) (y2 := y_Model_isSet) (o := 10) (idx := 335) (d2 := d_Model_isSet) (n := 2) (mc2 := 0) (ms2 := 0) (As := [.int x1, .int x2]) (st := []) (res2 := (some (.int q1.1), jR0, q1.2)) (by decide +kernel) rfl lk_10_335 mo_Model_isSet mv_Model_isSet ⟨Nat.le_of_ble_eq_true rfl, Nat.le_of_ble_eq_true rfl⟩ rfl rfl kz_93 (by decide) rfl (Nat.le_of_ble_eq_true rfl) ⟨Nat.le_refl _, Nat.le_refl _⟩ hG (e_Model_isSet hG hq1) ?_
  refine ev_if_ne (off := 5) (tgt := 11) (by decide +kernel) (by decide) (fun c22 => ?_) (fun c22 => ?_)
  · replace h := jneg c22 h
    refine ev_seg (o := 10) (nL := 15) (q := 20) (xs := [(.iconst 0, 1, 0, 0, .int 0), (.istore 8, 2, 8, 0, .null), (.iconst 0, 1, 0, 0, .int 0), (.istore 9, 2, 9, 0, .null), (.iconst 0, 1, 0, 0, .int 0), (.istore 10, 2, 10, 0, .null)]) (L' := [some (.ref 93), some (.int x1), some (.int x2), some (.int x3), some (.int x4), some (.int x5), some (.int x6), some (.int x7), some (.int 0), some (.int 0), some (.int 0), none, none, none, none]) (st' := []) (w' := q1.2) (g := []) (K := []) (by decide +kernel) rfl rfl rfl rfl jk0 ?_
    refine ev_mask [true, true, true, true, true, true, true, true, true, true, true, false, false, false, false] ?_
    exact t_Model_proof_h20 hG jfu _ _ _ _ _ _ _ _ _ _ _ _ h
  · replace h := jpos c22 h
    refine ev_seg (o := 10) (nL := 15) (q := 10) (xs := [(.iconst (-1), 1, 0, 0, .int (-1))]) (L' := [some (.ref 93), some (.int x1), some (.int x2), some (.int x3), some (.int x4), some (.int x5), some (.int x6), some (.int x7), none, none, none, none, none, none, none]) (st' := [.int (-1)]) (w' := q1.2) (g := []) (K := []) (by decide +kernel) rfl rfl rfl rfl jk0 ?_
    cases h
    exact ev_iret (by decide +kernel) rfl rfl rfl rfl
def f_Model_isTold_h2 : Nat → Int32 → Int32 → Int32 → jW → Option (Int32 × jW)
  | 0, _, _, _, _ => none
  | n + 1, x1, x2, x3, w =>
  if jal [jin 13 21000] = true then
  if x3 < (w.1 94 (Int32.toNatClampNeg 13)) then
    if jal [jin (20880 + (2 * x3)) 21000] = true then
    if (w.1 94 (Int32.toNatClampNeg (20880 + (2 * x3)))) = x1 then
      if jal [jin ((20880 + (2 * x3)) + 1) 21000] = true then
      if (w.1 94 (Int32.toNatClampNeg ((20880 + (2 * x3)) + 1))) = x2 then
        some (1, w)
      else
        (f_Model_isTold_h2 n) x1 x2 (x3 + 1) w
      else none
    else
      (f_Model_isTold_h2 n) x1 x2 (x3 + 1) w
    else none
  else
    some (0, w)
  else none
set_option maxRecDepth 20000 in
theorem t_Model_isTold_h2 {l : Launch} {G : jG} (hG : jX G) : ∀ (n : Nat) (x1 : Int32) (x2 : Int32) (x3 : Int32) (w : jW) (z : (Int32 × jW)), f_Model_isTold_h2 n x1 x2 x3 w = some z → Ev l G (jrm d_Model_isTold 0 0) y_Model_isTold (some (.int z.1), jR0, z.2) 0 0 0 0 2 [some (.ref 93), some (.int x1), some (.int x2), some (.int x3)] [] jR0 w := by
  intro n
  induction n with
  | zero => intro x1 x2 x3 w z h; simp only [f_Model_isTold_h2] at h; cases h
  | succ n ih =>
    intro x1 x2 x3 w z h
    rw [f_Model_isTold_h2] at h
    obtain ⟨hg1, h⟩ := jgd h
    refine ev_seg (o := 10) (nL := 4) (q := 10) (xs := [(.iload_n 3, 1, 3, 0, .null), (.aload_n 0, 1, 0, 0, .null), (.getfield 7, 3, 10, 0, .ref 20), (.bipush 13, 2, 0, 0, .int 13), (.iaload, 1, 0, 0, .null)]) (L' := [some (.ref 93), some (.int x1), some (.int x2), some (.int x3)]) (st' := [.int (w.1 94 (Int32.toNatClampNeg 13)), .int x3]) (w' := w) (g := [jin 13 21000]) (K := [(94, 20), (94, 20), (93, 10)]) (by decide +kernel) rfl rfl rfl hg1 (jk1 kz_94 (jk1 kz_94 (jk1 kz_93 jk0))) ?_
    refine ev_icmp_ge (off := 45) (tgt := 55) (by decide +kernel) (by decide) (fun c6 => ?_) (fun c6 => ?_)
    · replace h := jneg c6 h
      refine ev_seg (o := 10) (nL := 4) (q := 56) (xs := [(.iconst 0, 1, 0, 0, .int 0)]) (L' := [some (.ref 93), some (.int x1), some (.int x2), some (.int x3)]) (st' := [.int 0]) (w' := w) (g := []) (K := []) (by decide +kernel) rfl rfl rfl rfl jk0 ?_
      cases h
      exact ev_zret (by decide +kernel) rfl rfl rfl rfl rfl
    · replace h := jpos c6 h
      obtain ⟨hg2, h⟩ := jgd h
      refine ev_seg (o := 10) (nL := 4) (q := 26) (xs := [(.aload_n 0, 1, 0, 0, .null), (.getfield 7, 3, 10, 0, .ref 20), (.sipush 20880, 3, 0, 0, .int 20880), (.iconst 2, 1, 0, 0, .int 2), (.iload_n 3, 1, 3, 0, .null), (.imul, 1, 0, 0, .null), (.iadd, 1, 0, 0, .null), (.iaload, 1, 0, 0, .null), (.iload_n 1, 1, 1, 0, .null)]) (L' := [some (.ref 93), some (.int x1), some (.int x2), some (.int x3)]) (st' := [.int x1, .int (w.1 94 (Int32.toNatClampNeg (20880 + (2 * x3))))]) (w' := w) (g := [jin (20880 + (2 * x3)) 21000]) (K := [(94, 20), (94, 20), (93, 10)]) (by decide +kernel) rfl rfl rfl hg2 (jk1 kz_94 (jk1 kz_94 (jk1 kz_93 jk0))) ?_
      refine ev_icmp_ne (off := 23) (tgt := 49) (by decide +kernel) (by decide) (fun c5 => ?_) (fun c5 => ?_)
      · replace h := jneg c5 h
        refine ev_seg (o := 10) (nL := 4) (q := 2) (xs := [(.iinc 3 1, 3, 3, 0, .int 1), (.goto (-50), 3, 0, 0, .null)]) (L' := [some (.ref 93), some (.int x1), some (.int x2), some (.int (x3 + 1))]) (st' := []) (w' := w) (g := []) (K := []) (by decide +kernel) rfl rfl rfl rfl jk0 ?_
        refine ev_mask [true, true, true, true] ?_
        exact ih _ _ _ _ _ h
      · replace h := jpos c5 h
        obtain ⟨hg3, h⟩ := jgd h
        refine ev_seg (o := 10) (nL := 4) (q := 44) (xs := [(.aload_n 0, 1, 0, 0, .null), (.getfield 7, 3, 10, 0, .ref 20), (.sipush 20880, 3, 0, 0, .int 20880), (.iconst 2, 1, 0, 0, .int 2), (.iload_n 3, 1, 3, 0, .null), (.imul, 1, 0, 0, .null), (.iadd, 1, 0, 0, .null), (.iconst 1, 1, 0, 0, .int 1), (.iadd, 1, 0, 0, .null), (.iaload, 1, 0, 0, .null), (.iload_n 2, 1, 2, 0, .null)]) (L' := [some (.ref 93), some (.int x1), some (.int x2), some (.int x3)]) (st' := [.int x2, .int (w.1 94 (Int32.toNatClampNeg ((20880 + (2 * x3)) + 1)))]) (w' := w) (g := [jin ((20880 + (2 * x3)) + 1) 21000]) (K := [(94, 20), (94, 20), (93, 10)]) (by decide +kernel) rfl rfl rfl hg3 (jk1 kz_94 (jk1 kz_94 (jk1 kz_93 jk0))) ?_
        refine ev_icmp_ne (off := 5) (tgt := 49) (by decide +kernel) (by decide) (fun c4 => ?_) (fun c4 => ?_)
        · replace h := jneg c4 h
          refine ev_seg (o := 10) (nL := 4) (q := 2) (xs := [(.iinc 3 1, 3, 3, 0, .int 1), (.goto (-50), 3, 0, 0, .null)]) (L' := [some (.ref 93), some (.int x1), some (.int x2), some (.int (x3 + 1))]) (st' := []) (w' := w) (g := []) (K := []) (by decide +kernel) rfl rfl rfl rfl jk0 ?_
          refine ev_mask [true, true, true, true] ?_
          exact ih _ _ _ _ _ h
        · replace h := jpos c4 h
          refine ev_seg (o := 10) (nL := 4) (q := 48) (xs := [(.iconst 1, 1, 0, 0, .int 1)]) (L' := [some (.ref 93), some (.int x1), some (.int x2), some (.int x3)]) (st' := [.int 1]) (w' := w) (g := []) (K := []) (by decide +kernel) rfl rfl rfl rfl jk0 ?_
          cases h
          exact ev_zret (by decide +kernel) rfl rfl rfl rfl rfl
def f_Model_isTold (x1 : Int32) (x2 : Int32) (w : jW) : Option (Int32 × jW) :=
  f_Model_isTold_h2 jfu x1 x2 0 w
set_option maxRecDepth 20000 in
theorem e_Model_isTold {l : Launch} {G : jG} (hG : jX G) {x1 : Int32} {x2 : Int32} {w : jW} {z : (Int32 × jW)} (h : f_Model_isTold x1 x2 w = some z) : Ct l G y_Model_isTold d_Model_isTold 0 0 [.ref 93, .int x1, .int x2] jR0 w (some (.int z.1), jR0, z.2) := by
  rw [f_Model_isTold] at h
  refine Ct.of (L := [some (.ref 93), some (.int x1), some (.int x2), none]) (by decide) (Nat.le_of_ble_eq_true rfl) rfl ?_
  refine ev_seg (o := 10) (nL := 4) (q := 2) (xs := [(.iconst 0, 1, 0, 0, .int 0), (.istore_n 3, 1, 3, 0, .null)]) (L' := [some (.ref 93), some (.int x1), some (.int x2), some (.int 0)]) (st' := []) (w' := w) (g := []) (K := []) (by decide +kernel) rfl rfl rfl rfl jk0 ?_
  refine ev_mask [true, true, true, true] ?_
  exact t_Model_isTold_h2 hG jfu _ _ _ _ _ h
def f_Model_watch (x1 : Int32) (x2 : Int32) (w : jW) : Option (Int32 × jW) :=
  Option.bind (f_Model_isSite x1 w) fun q1 =>
  if q1.1 = 0 then
    some ((-1), q1.2)
  else
    if jal [jin 0 21000] = true then
    Option.bind (f_Model_isIn x2 (q1.2.1 94 (Int32.toNatClampNeg 0)) 1999 q1.2) fun q3 =>
    if q3.1 = 0 then
      some ((-1), q3.2)
    else
      Option.bind (f_Model_isTold x1 x2 q3.2) fun q4 =>
      if q4.1 = 0 then
        if jal [jin 13 21000] = true then
        if (q4.2.1 94 (Int32.toNatClampNeg 13)) = 60 then
          some ((-1), q4.2)
        else
          if jal [jin (20880 + (2 * (q4.2.1 94 (Int32.toNatClampNeg 13)))) 21000, jin 13 21000] = true then
          jlw ((jup q4.2.1 94 (Int32.toNatClampNeg (20880 + (2 * (q4.2.1 94 (Int32.toNatClampNeg 13))))) x1), q4.2.2) fun w7 =>
          if jal [jin ((20880 + (2 * (w7.1 94 (Int32.toNatClampNeg 13)))) + 1) 21000, jin 13 21000] = true then
          jlw ((jup w7.1 94 (Int32.toNatClampNeg ((20880 + (2 * (w7.1 94 (Int32.toNatClampNeg 13)))) + 1)) x2), w7.2) fun w9 =>
          if jal [jin 13 21000, jin 13 21000] = true then
          jlw ((jup w9.1 94 (Int32.toNatClampNeg 13) ((w9.1 94 (Int32.toNatClampNeg 13)) + 1)), w9.2) fun w11 =>
          if jal [jin 13 21000] = true then
          some ((w11.1 94 (Int32.toNatClampNeg 13)), w11)
          else none else none else none else none
        else none
      else
        some ((-1), q4.2)
    else none
set_option maxRecDepth 20000 in
theorem e_Model_watch {l : Launch} {G : jG} (hG : jX G) {x1 : Int32} {x2 : Int32} {w : jW} {z : (Int32 × jW)} (h : f_Model_watch x1 x2 w = some z) : Ct l G y_Model_watch d_Model_watch 0 0 [.ref 93, .int x1, .int x2] jR0 w (some (.int z.1), jR0, z.2) := by
  rw [f_Model_watch] at h
  refine Ct.of (L := [some (.ref 93), some (.int x1), some (.int x2)]) (by decide) (Nat.le_of_ble_eq_true rfl) rfl ?_
  refine ev_seg (o := 10) (nL := 3) (q := 2) (xs := [(.aload_n 0, 1, 0, 0, .null), (.iload_n 1, 1, 1, 0, .null)]) (L' := [some (.ref 93), some (.int x1), some (.int x2)]) (st' := [.int x1, .ref 93]) (w' := w) (g := []) (K := []) (by decide +kernel) rfl rfl rfl rfl jk0 ?_
  obtain ⟨q1, hq1, h⟩ := jbe h
  refine ev_callV (ci := 10) (a := 93) (y2 := y_Model_isSite) (o := 10) (idx := 50) (d2 := d_Model_isSite) (n := 1) (mc2 := 0) (ms2 := 0) (As := [.int x1]) (st := []) (res2 := (some (.int q1.1), jR0, q1.2)) (by decide +kernel) rfl lk_10_50 mo_Model_isSite mv_Model_isSite ⟨Nat.le_of_ble_eq_true rfl, Nat.le_of_ble_eq_true rfl⟩ rfl rfl kz_93 (by decide) rfl (Nat.le_of_ble_eq_true rfl) ⟨Nat.le_refl _, Nat.le_refl _⟩ hG (e_Model_isSite hG hq1) ?_
  refine ev_if_eq (off := 40) (tgt := 45) (by decide +kernel) (by decide) (fun c16 => ?_) (fun c16 => ?_)
  · replace h := jpos c16 h
    refine ev_seg (o := 10) (nL := 3) (q := 46) (xs := [(.iconst (-1), 1, 0, 0, .int (-1))]) (L' := [some (.ref 93), some (.int x1), some (.int x2)]) (st' := [.int (-1)]) (w' := q1.2) (g := []) (K := []) (by decide +kernel) rfl rfl rfl rfl jk0 ?_
    cases h
    exact ev_iret (by decide +kernel) rfl rfl rfl rfl
  · replace h := jneg c16 h
    obtain ⟨hg2, h⟩ := jgd h
    refine ev_seg (o := 10) (nL := 3) (q := 18) (xs := [(.iload_n 2, 1, 2, 0, .null), (.aload_n 0, 1, 0, 0, .null), (.getfield 7, 3, 10, 0, .ref 20), (.iconst 0, 1, 0, 0, .int 0), (.iaload, 1, 0, 0, .null), (.sipush 1999, 3, 0, 0, .int 1999)]) (L' := [some (.ref 93), some (.int x1), some (.int x2)]) (st' := [.int 1999, .int (q1.2.1 94 (Int32.toNatClampNeg 0)), .int x2]) (w' := q1.2) (g := [jin 0 21000]) (K := [(94, 20), (94, 20), (93, 10)]) (by decide +kernel) rfl rfl rfl hg2 (jk1 kz_94 (jk1 kz_94 (jk1 kz_93 jk0))) ?_
    obtain ⟨q3, hq3, h⟩ := jbe h
    refine ev_callS (y2 := y_Model_isIn) (o := 10) (idx := 46) (d2 := d_Model_isIn) (n := 3) (mc2 := 0) (ms2 := 0) (As := [.int x2, .int (q1.2.1 94 (Int32.toNatClampNeg 0)), .int 1999]) (st := []) (res2 := (some (.int q3.1), jR0, q3.2)) (by decide +kernel) rfl lk_10_46 mo_Model_isIn ms_Model_isIn ⟨Nat.le_of_ble_eq_true rfl, Nat.le_of_ble_eq_true rfl⟩ rfl rfl (Nat.le_of_ble_eq_true rfl) ⟨Nat.le_refl _, Nat.le_refl _⟩ hG (e_Model_isIn hG hq3) ?_
    refine ev_if_eq (off := 24) (tgt := 45) (by decide +kernel) (by decide) (fun c15 => ?_) (fun c15 => ?_)
    · replace h := jpos c15 h
      refine ev_seg (o := 10) (nL := 3) (q := 46) (xs := [(.iconst (-1), 1, 0, 0, .int (-1))]) (L' := [some (.ref 93), some (.int x1), some (.int x2)]) (st' := [.int (-1)]) (w' := q3.2) (g := []) (K := []) (by decide +kernel) rfl rfl rfl rfl jk0 ?_
      cases h
      exact ev_iret (by decide +kernel) rfl rfl rfl rfl
    · replace h := jneg c15 h
      refine ev_seg (o := 10) (nL := 3) (q := 27) (xs := [(.aload_n 0, 1, 0, 0, .null), (.iload_n 1, 1, 1, 0, .null), (.iload_n 2, 1, 2, 0, .null)]) (L' := [some (.ref 93), some (.int x1), some (.int x2)]) (st' := [.int x2, .int x1, .ref 93]) (w' := q3.2) (g := []) (K := []) (by decide +kernel) rfl rfl rfl rfl jk0 ?_
      obtain ⟨q4, hq4, h⟩ := jbe h
      refine ev_callV (ci := 10) (a := 93) (y2 := y_Model_isTold) (o := 10) (idx := 343) (d2 := d_Model_isTold) (n := 2) (mc2 := 0) (ms2 := 0) (As := [.int x1, .int x2]) (st := []) (res2 := (some (.int q4.1), jR0, q4.2)) (by decide +kernel) rfl lk_10_343 mo_Model_isTold mv_Model_isTold ⟨Nat.le_of_ble_eq_true rfl, Nat.le_of_ble_eq_true rfl⟩ rfl rfl kz_93 (by decide) rfl (Nat.le_of_ble_eq_true rfl) ⟨Nat.le_refl _, Nat.le_refl _⟩ hG (e_Model_isTold hG hq4) ?_
      refine ev_if_ne (off := 15) (tgt := 45) (by decide +kernel) (by decide) (fun c14 => ?_) (fun c14 => ?_)
      · replace h := jneg c14 h
        refine ev_seg (o := 10) (nL := 3) (q := 46) (xs := [(.iconst (-1), 1, 0, 0, .int (-1))]) (L' := [some (.ref 93), some (.int x1), some (.int x2)]) (st' := [.int (-1)]) (w' := q4.2) (g := []) (K := []) (by decide +kernel) rfl rfl rfl rfl jk0 ?_
        cases h
        exact ev_iret (by decide +kernel) rfl rfl rfl rfl
      · replace h := jpos c14 h
        obtain ⟨hg5, h⟩ := jgd h
        refine ev_seg (o := 10) (nL := 3) (q := 42) (xs := [(.aload_n 0, 1, 0, 0, .null), (.getfield 7, 3, 10, 0, .ref 20), (.bipush 13, 2, 0, 0, .int 13), (.iaload, 1, 0, 0, .null), (.bipush 60, 2, 0, 0, .int 60)]) (L' := [some (.ref 93), some (.int x1), some (.int x2)]) (st' := [.int 60, .int (q4.2.1 94 (Int32.toNatClampNeg 13))]) (w' := q4.2) (g := [jin 13 21000]) (K := [(94, 20), (94, 20), (93, 10)]) (by decide +kernel) rfl rfl rfl hg5 (jk1 kz_94 (jk1 kz_94 (jk1 kz_93 jk0))) ?_
        refine ev_icmp_ne (off := 5) (tgt := 47) (by decide +kernel) (by decide) (fun c13 => ?_) (fun c13 => ?_)
        · replace h := jneg c13 h
          obtain ⟨hg6, h⟩ := jgd h
          refine ev_seg (o := 10) (nL := 3) (q := 66) (xs := [(.aload_n 0, 1, 0, 0, .null), (.getfield 7, 3, 10, 0, .ref 20), (.sipush 20880, 3, 0, 0, .int 20880), (.iconst 2, 1, 0, 0, .int 2), (.aload_n 0, 1, 0, 0, .null), (.getfield 7, 3, 10, 0, .ref 20), (.bipush 13, 2, 0, 0, .int 13), (.iaload, 1, 0, 0, .null), (.imul, 1, 0, 0, .null), (.iadd, 1, 0, 0, .null), (.iload_n 1, 1, 1, 0, .null), (.iastore, 1, 0, 0, .null)]) (L' := [some (.ref 93), some (.int x1), some (.int x2)]) (st' := []) (w' := ((jup q4.2.1 94 (Int32.toNatClampNeg (20880 + (2 * (q4.2.1 94 (Int32.toNatClampNeg 13))))) x1), q4.2.2)) (g := [jin (20880 + (2 * (q4.2.1 94 (Int32.toNatClampNeg 13)))) 21000, jin 13 21000]) (K := [(94, 20), (94, 20), (94, 20), (93, 10), (94, 20), (93, 10)]) (by decide +kernel) rfl rfl rfl hg6 (jk1 kz_94 (jk1 kz_94 (jk1 kz_94 (jk1 kz_93 (jk1 kz_94 (jk1 kz_93 jk0)))))) ?_
          refine jlw_c (P := fun w7 => Ev l G (jrm d_Model_watch 0 0) y_Model_watch (some (.int z.1), jR0, z.2) 0 0 0 0 66 [some (.ref 93), some (.int x1), some (.int x2)] [] jR0 w7) h fun w7 h => ?_
          obtain ⟨hg8, h⟩ := jgd h
          refine ev_seg (o := 10) (nL := 3) (q := 87) (xs := [(.aload_n 0, 1, 0, 0, .null), (.getfield 7, 3, 10, 0, .ref 20), (.sipush 20880, 3, 0, 0, .int 20880), (.iconst 2, 1, 0, 0, .int 2), (.aload_n 0, 1, 0, 0, .null), (.getfield 7, 3, 10, 0, .ref 20), (.bipush 13, 2, 0, 0, .int 13), (.iaload, 1, 0, 0, .null), (.imul, 1, 0, 0, .null), (.iadd, 1, 0, 0, .null), (.iconst 1, 1, 0, 0, .int 1), (.iadd, 1, 0, 0, .null), (.iload_n 2, 1, 2, 0, .null), (.iastore, 1, 0, 0, .null)]) (L' := [some (.ref 93), some (.int x1), some (.int x2)]) (st' := []) (w' := ((jup w7.1 94 (Int32.toNatClampNeg ((20880 + (2 * (w7.1 94 (Int32.toNatClampNeg 13)))) + 1)) x2), w7.2)) (g := [jin ((20880 + (2 * (w7.1 94 (Int32.toNatClampNeg 13)))) + 1) 21000, jin 13 21000]) (K := [(94, 20), (94, 20), (94, 20), (93, 10), (94, 20), (93, 10)]) (by decide +kernel) rfl rfl rfl hg8 (jk1 kz_94 (jk1 kz_94 (jk1 kz_94 (jk1 kz_93 (jk1 kz_94 (jk1 kz_93 jk0)))))) ?_
          refine jlw_c (P := fun w9 => Ev l G (jrm d_Model_watch 0 0) y_Model_watch (some (.int z.1), jR0, z.2) 0 0 0 0 87 [some (.ref 93), some (.int x1), some (.int x2)] [] jR0 w9) h fun w9 h => ?_
          obtain ⟨hg10, h⟩ := jgd h
          refine ev_seg (o := 10) (nL := 3) (q := 98) (xs := [(.aload_n 0, 1, 0, 0, .null), (.getfield 7, 3, 10, 0, .ref 20), (.bipush 13, 2, 0, 0, .int 13), (.dup2, 1, 0, 0, .null), (.iaload, 1, 0, 0, .null), (.iconst 1, 1, 0, 0, .int 1), (.iadd, 1, 0, 0, .null), (.iastore, 1, 0, 0, .null)]) (L' := [some (.ref 93), some (.int x1), some (.int x2)]) (st' := []) (w' := ((jup w9.1 94 (Int32.toNatClampNeg 13) ((w9.1 94 (Int32.toNatClampNeg 13)) + 1)), w9.2)) (g := [jin 13 21000, jin 13 21000]) (K := [(94, 20), (94, 20), (94, 20), (93, 10)]) (by decide +kernel) rfl rfl rfl hg10 (jk1 kz_94 (jk1 kz_94 (jk1 kz_94 (jk1 kz_93 jk0)))) ?_
          refine jlw_c (P := fun w11 => Ev l G (jrm d_Model_watch 0 0) y_Model_watch (some (.int z.1), jR0, z.2) 0 0 0 0 98 [some (.ref 93), some (.int x1), some (.int x2)] [] jR0 w11) h fun w11 h => ?_
          obtain ⟨hg12, h⟩ := jgd h
          refine ev_seg (o := 10) (nL := 3) (q := 105) (xs := [(.aload_n 0, 1, 0, 0, .null), (.getfield 7, 3, 10, 0, .ref 20), (.bipush 13, 2, 0, 0, .int 13), (.iaload, 1, 0, 0, .null)]) (L' := [some (.ref 93), some (.int x1), some (.int x2)]) (st' := [.int (w11.1 94 (Int32.toNatClampNeg 13))]) (w' := w11) (g := [jin 13 21000]) (K := [(94, 20), (94, 20), (93, 10)]) (by decide +kernel) rfl rfl rfl hg12 (jk1 kz_94 (jk1 kz_94 (jk1 kz_93 jk0))) ?_
          cases h
          exact ev_iret (by decide +kernel) rfl rfl rfl rfl
        · replace h := jpos c13 h
          refine ev_seg (o := 10) (nL := 3) (q := 46) (xs := [(.iconst (-1), 1, 0, 0, .int (-1))]) (L' := [some (.ref 93), some (.int x1), some (.int x2)]) (st' := [.int (-1)]) (w' := q4.2) (g := []) (K := []) (by decide +kernel) rfl rfl rfl rfl jk0 ?_
          cases h
          exact ev_iret (by decide +kernel) rfl rfl rfl rfl
def f_Model_isSeen (x1 : Int32) (x2 : Int32) (x3 : Int32) (w : jW) : Option (Int32 × jW) :=
  Option.bind (f_Model_siteAt x2 2 w) fun q1 =>
  if q1.1 = 1 then
    some (1, q1.2)
  else
    Option.bind (f_Model_isSealed x2 q1.2) fun q2 =>
    if q2.1 = 0 then
      Option.bind (f_Model_thingAt x1 1 q2.2) fun q3 =>
      if jal [jin 16 21000] = true then
      if q3.1 < (q3.2.1 94 (Int32.toNatClampNeg 16)) then
        some (0, q3.2)
      else
        Option.bind (f_Model_siteAt x2 3 q3.2) fun q5 =>
        if q5.1 = 0 then
          Option.bind (f_Model_isTold x2 x3 q5.2) fun q6 =>
          if q6.1 = 0 then
            some (0, q6.2)
          else
            Option.bind (f_Model_isCloudy x2 x3 q6.2) fun q7 =>
            if q7.1 = 0 then
              some (1, q7.2)
            else
              some (0, q7.2)
        else
          some (0, q5.2)
      else none
    else
      some (1, q2.2)
set_option maxRecDepth 20000 in
theorem e_Model_isSeen {l : Launch} {G : jG} (hG : jX G) {x1 : Int32} {x2 : Int32} {x3 : Int32} {w : jW} {z : (Int32 × jW)} (h : f_Model_isSeen x1 x2 x3 w = some z) : Ct l G y_Model_isSeen d_Model_isSeen 0 0 [.ref 93, .int x1, .int x2, .int x3] jR0 w (some (.int z.1), jR0, z.2) := by
  rw [f_Model_isSeen] at h
  refine Ct.of (L := [some (.ref 93), some (.int x1), some (.int x2), some (.int x3)]) (by decide) (Nat.le_of_ble_eq_true rfl) rfl ?_
  refine ev_seg (o := 10) (nL := 4) (q := 3) (xs := [(.aload_n 0, 1, 0, 0, .null), (.iload_n 2, 1, 2, 0, .null), (.iconst 2, 1, 0, 0, .int 2)]) (L' := [some (.ref 93), some (.int x1), some (.int x2), some (.int x3)]) (st' := [.int 2, .int x2, .ref 93]) (w' := w) (g := []) (K := []) (by decide +kernel) rfl rfl rfl rfl jk0 ?_
  obtain ⟨q1, hq1, h⟩ := jbe h
  refine ev_callV (ci := 10) (a := 93) (y2 := y_Model_siteAt) (o := 10) (idx := 54) (d2 := d_Model_siteAt) (n := 2) (mc2 := 0) (ms2 := 0) (As := [.int x2, .int 2]) (st := []) (res2 := (some (.int q1.1), jR0, q1.2)) (by decide +kernel) rfl lk_10_54 mo_Model_siteAt mv_Model_siteAt ⟨Nat.le_of_ble_eq_true rfl, Nat.le_of_ble_eq_true rfl⟩ rfl rfl kz_93 (by decide) rfl (Nat.le_of_ble_eq_true rfl) ⟨Nat.le_refl _, Nat.le_refl _⟩ hG (e_Model_siteAt hG hq1) ?_
  refine ev_seg (o := 10) (nL := 4) (q := 7) (xs := [(.iconst 1, 1, 0, 0, .int 1)]) (L' := [some (.ref 93), some (.int x1), some (.int x2), some (.int x3)]) (st' := [.int 1, .int q1.1]) (w' := q1.2) (g := []) (K := []) (by decide +kernel) rfl rfl rfl rfl jk0 ?_
  refine ev_icmp_eq (off := 11) (tgt := 18) (by decide +kernel) (by decide) (fun c13 => ?_) (fun c13 => ?_)
  · replace h := jpos c13 h
    refine ev_seg (o := 10) (nL := 4) (q := 19) (xs := [(.iconst 1, 1, 0, 0, .int 1)]) (L' := [some (.ref 93), some (.int x1), some (.int x2), some (.int x3)]) (st' := [.int 1]) (w' := q1.2) (g := []) (K := []) (by decide +kernel) rfl rfl rfl rfl jk0 ?_
    cases h
    exact ev_zret (by decide +kernel) rfl rfl rfl rfl rfl
  · replace h := jneg c13 h
    refine ev_seg (o := 10) (nL := 4) (q := 12) (xs := [(.aload_n 0, 1, 0, 0, .null), (.iload_n 2, 1, 2, 0, .null)]) (L' := [some (.ref 93), some (.int x1), some (.int x2), some (.int x3)]) (st' := [.int x2, .ref 93]) (w' := q1.2) (g := []) (K := []) (by decide +kernel) rfl rfl rfl rfl jk0 ?_
    obtain ⟨q2, hq2, h⟩ := jbe h
    refine ev_callV (ci := 10) (a := 93) (y2 := y_Model_isSealed) (o := 10) (idx := 95) (d2 := d_Model_isSealed) (n := 1) (mc2 := 0) (ms2 := 0) (As := [.int x2]) (st := []) (res2 := (some (.int q2.1), jR0, q2.2)) (by decide +kernel) rfl lk_10_95 mo_Model_isSealed mv_Model_isSealed ⟨Nat.le_of_ble_eq_true rfl, Nat.le_of_ble_eq_true rfl⟩ rfl rfl kz_93 (by decide) rfl (Nat.le_of_ble_eq_true rfl) ⟨Nat.le_refl _, Nat.le_refl _⟩ hG (e_Model_isSealed hG hq2) ?_
    refine ev_if_eq (off := 5) (tgt := 20) (by decide +kernel) (by decide) (fun c12 => ?_) (fun c12 => ?_)
    · replace h := jpos c12 h
      refine ev_seg (o := 10) (nL := 4) (q := 23) (xs := [(.aload_n 0, 1, 0, 0, .null), (.iload_n 1, 1, 1, 0, .null), (.iconst 1, 1, 0, 0, .int 1)]) (L' := [some (.ref 93), some (.int x1), some (.int x2), some (.int x3)]) (st' := [.int 1, .int x1, .ref 93]) (w' := q2.2) (g := []) (K := []) (by decide +kernel) rfl rfl rfl rfl jk0 ?_
      obtain ⟨q3, hq3, h⟩ := jbe h
      refine ev_callV (ci := 10) (a := 93) (y2 := y_Model_thingAt) (o := 10) (idx := 66) (d2 := d_Model_thingAt) (n := 2) (mc2 := 0) (ms2 := 0) (As := [.int x1, .int 1]) (st := []) (res2 := (some (.int q3.1), jR0, q3.2)) (by decide +kernel) rfl lk_10_66 mo_Model_thingAt mv_Model_thingAt ⟨Nat.le_of_ble_eq_true rfl, Nat.le_of_ble_eq_true rfl⟩ rfl rfl kz_93 (by decide) rfl (Nat.le_of_ble_eq_true rfl) ⟨Nat.le_refl _, Nat.le_refl _⟩ hG (e_Model_thingAt hG hq3) ?_
      obtain ⟨hg4, h⟩ := jgd h
      refine ev_seg (o := 10) (nL := 4) (q := 33) (xs := [(.aload_n 0, 1, 0, 0, .null), (.getfield 7, 3, 10, 0, .ref 20), (.bipush 16, 2, 0, 0, .int 16), (.iaload, 1, 0, 0, .null)]) (L' := [some (.ref 93), some (.int x1), some (.int x2), some (.int x3)]) (st' := [.int (q3.2.1 94 (Int32.toNatClampNeg 16)), .int q3.1]) (w' := q3.2) (g := [jin 16 21000]) (K := [(94, 20), (94, 20), (93, 10)]) (by decide +kernel) rfl rfl rfl hg4 (jk1 kz_94 (jk1 kz_94 (jk1 kz_93 jk0))) ?_
      refine ev_icmp_lt (off := 34) (tgt := 67) (by decide +kernel) (by decide) (fun c11 => ?_) (fun c11 => ?_)
      · replace h := jpos c11 h
        refine ev_seg (o := 10) (nL := 4) (q := 68) (xs := [(.iconst 0, 1, 0, 0, .int 0)]) (L' := [some (.ref 93), some (.int x1), some (.int x2), some (.int x3)]) (st' := [.int 0]) (w' := q3.2) (g := []) (K := []) (by decide +kernel) rfl rfl rfl rfl jk0 ?_
        cases h
        exact ev_zret (by decide +kernel) rfl rfl rfl rfl rfl
      · replace h := jneg c11 h
        refine ev_seg (o := 10) (nL := 4) (q := 39) (xs := [(.aload_n 0, 1, 0, 0, .null), (.iload_n 2, 1, 2, 0, .null), (.iconst 3, 1, 0, 0, .int 3)]) (L' := [some (.ref 93), some (.int x1), some (.int x2), some (.int x3)]) (st' := [.int 3, .int x2, .ref 93]) (w' := q3.2) (g := []) (K := []) (by decide +kernel) rfl rfl rfl rfl jk0 ?_
        obtain ⟨q5, hq5, h⟩ := jbe h
        refine ev_callV (ci := 10) (a := 93) (y2 := y_Model_siteAt) (o := 10) (idx := 54) (d2 := d_Model_siteAt) (n := 2) (mc2 := 0) (ms2 := 0) (As := [.int x2, .int 3]) (st := []) (res2 := (some (.int q5.1), jR0, q5.2)) (by decide +kernel) rfl lk_10_54 mo_Model_siteAt mv_Model_siteAt ⟨Nat.le_of_ble_eq_true rfl, Nat.le_of_ble_eq_true rfl⟩ rfl rfl kz_93 (by decide) rfl (Nat.le_of_ble_eq_true rfl) ⟨Nat.le_refl _, Nat.le_refl _⟩ hG (e_Model_siteAt hG hq5) ?_
        refine ev_if_ne (off := 25) (tgt := 67) (by decide +kernel) (by decide) (fun c10 => ?_) (fun c10 => ?_)
        · replace h := jneg c10 h
          refine ev_seg (o := 10) (nL := 4) (q := 68) (xs := [(.iconst 0, 1, 0, 0, .int 0)]) (L' := [some (.ref 93), some (.int x1), some (.int x2), some (.int x3)]) (st' := [.int 0]) (w' := q5.2) (g := []) (K := []) (by decide +kernel) rfl rfl rfl rfl jk0 ?_
          cases h
          exact ev_zret (by decide +kernel) rfl rfl rfl rfl rfl
        · replace h := jpos c10 h
          refine ev_seg (o := 10) (nL := 4) (q := 48) (xs := [(.aload_n 0, 1, 0, 0, .null), (.iload_n 2, 1, 2, 0, .null), (.iload_n 3, 1, 3, 0, .null)]) (L' := [some (.ref 93), some (.int x1), some (.int x2), some (.int x3)]) (st' := [.int x3, .int x2, .ref 93]) (w' := q5.2) (g := []) (K := []) (by decide +kernel) rfl rfl rfl rfl jk0 ?_
          obtain ⟨q6, hq6, h⟩ := jbe h
          refine ev_callV (ci := 10) (a := 93) (y2 := y_Model_isTold) (o := 10) (idx := 343) (d2 := d_Model_isTold) (n := 2) (mc2 := 0) (ms2 := 0) (As := [.int x2, .int x3]) (st := []) (res2 := (some (.int q6.1), jR0, q6.2)) (by decide +kernel) rfl lk_10_343 mo_Model_isTold mv_Model_isTold ⟨Nat.le_of_ble_eq_true rfl, Nat.le_of_ble_eq_true rfl⟩ rfl rfl kz_93 (by decide) rfl (Nat.le_of_ble_eq_true rfl) ⟨Nat.le_refl _, Nat.le_refl _⟩ hG (e_Model_isTold hG hq6) ?_
          refine ev_if_eq (off := 16) (tgt := 67) (by decide +kernel) (by decide) (fun c9 => ?_) (fun c9 => ?_)
          · replace h := jpos c9 h
            refine ev_seg (o := 10) (nL := 4) (q := 68) (xs := [(.iconst 0, 1, 0, 0, .int 0)]) (L' := [some (.ref 93), some (.int x1), some (.int x2), some (.int x3)]) (st' := [.int 0]) (w' := q6.2) (g := []) (K := []) (by decide +kernel) rfl rfl rfl rfl jk0 ?_
            cases h
            exact ev_zret (by decide +kernel) rfl rfl rfl rfl rfl
          · replace h := jneg c9 h
            refine ev_seg (o := 10) (nL := 4) (q := 57) (xs := [(.aload_n 0, 1, 0, 0, .null), (.iload_n 2, 1, 2, 0, .null), (.iload_n 3, 1, 3, 0, .null)]) (L' := [some (.ref 93), some (.int x1), some (.int x2), some (.int x3)]) (st' := [.int x3, .int x2, .ref 93]) (w' := q6.2) (g := []) (K := []) (by decide +kernel) rfl rfl rfl rfl jk0 ?_
            obtain ⟨q7, hq7, h⟩ := jbe h
            refine ev_callV (ci := 10) (a := 93) (y2 := y_Model_isCloudy) (o := 10) (idx := 274) (d2 := d_Model_isCloudy) (n := 2) (mc2 := 0) (ms2 := 0) (As := [.int x2, .int x3]) (st := []) (res2 := (some (.int q7.1), jR0, q7.2)) (by decide +kernel) rfl lk_10_274 mo_Model_isCloudy mv_Model_isCloudy ⟨Nat.le_of_ble_eq_true rfl, Nat.le_of_ble_eq_true rfl⟩ rfl rfl kz_93 (by decide) rfl (Nat.le_of_ble_eq_true rfl) ⟨Nat.le_refl _, Nat.le_refl _⟩ hG (e_Model_isCloudy hG hq7) ?_
            refine ev_if_ne (off := 7) (tgt := 67) (by decide +kernel) (by decide) (fun c8 => ?_) (fun c8 => ?_)
            · replace h := jneg c8 h
              refine ev_seg (o := 10) (nL := 4) (q := 68) (xs := [(.iconst 0, 1, 0, 0, .int 0)]) (L' := [some (.ref 93), some (.int x1), some (.int x2), some (.int x3)]) (st' := [.int 0]) (w' := q7.2) (g := []) (K := []) (by decide +kernel) rfl rfl rfl rfl jk0 ?_
              cases h
              exact ev_zret (by decide +kernel) rfl rfl rfl rfl rfl
            · replace h := jpos c8 h
              refine ev_seg (o := 10) (nL := 4) (q := 68) (xs := [(.iconst 1, 1, 0, 0, .int 1), (.goto 4, 3, 0, 0, .null)]) (L' := [some (.ref 93), some (.int x1), some (.int x2), some (.int x3)]) (st' := [.int 1]) (w' := q7.2) (g := []) (K := []) (by decide +kernel) rfl rfl rfl rfl jk0 ?_
              cases h
              exact ev_zret (by decide +kernel) rfl rfl rfl rfl rfl
    · replace h := jneg c12 h
      refine ev_seg (o := 10) (nL := 4) (q := 19) (xs := [(.iconst 1, 1, 0, 0, .int 1)]) (L' := [some (.ref 93), some (.int x1), some (.int x2), some (.int x3)]) (st' := [.int 1]) (w' := q2.2) (g := []) (K := []) (by decide +kernel) rfl rfl rfl rfl jk0 ?_
      cases h
      exact ev_zret (by decide +kernel) rfl rfl rfl rfl rfl
def f_Model_find_h108 (k6 : Int32 → Int32 → Int32 → Int32 → Int32 → jW → Option (Int32 × jW)) (k50 : Int32 → Int32 → Int32 → Int32 → Int32 → Int32 → Int32 → jW → Option (Int32 × jW)) : Nat → Int32 → Int32 → Int32 → Int32 → Int32 → Int32 → Int32 → Int32 → jW → Option (Int32 × jW)
  | 0, _, _, _, _, _, _, _, _, _ => none
  | n + 1, x1, x2, x3, x4, x5, x6, x7, x8, w =>
  if jal [jin 0 21000] = true then
  if x8 < ((w.1 94 (Int32.toNatClampNeg 0)) + x2) then
    if x8 ≤ 1999 then
      Option.bind (f_Model_isSeen x5 x6 x8 w) fun q8 =>
      if q8.1 = 0 then
        Option.bind (f_Model_isSeen x5 x7 x8 q8.2) fun q9 =>
        if q9.1 = 0 then
          jlw ((jup q9.2.1 93 23 x5), q9.2.2) fun w10 =>
          jlw ((jup w10.1 93 24 x7), w10.2) fun w11 =>
          jlw ((jup w11.1 93 25 x8), w11.2) fun w12 =>
          if x4 = x3 then
            some ((-1), w12)
          else
            (f_Model_find_h108 k6 k50 n) x1 x2 x3 (x4 + 1) x5 x6 x7 (x8 + 1) w12
        else
          (f_Model_find_h108 k6 k50 n) x1 x2 x3 x4 x5 x6 x7 (x8 + 1) q9.2
      else
        (f_Model_find_h108 k6 k50 n) x1 x2 x3 x4 x5 x6 x7 (x8 + 1) q8.2
    else
      k50 x1 x2 x3 x4 x5 x6 (x7 + 1) w
  else
    k50 x1 x2 x3 x4 x5 x6 (x7 + 1) w
  else none
set_option maxRecDepth 20000 in
theorem t_Model_find_h108 {l : Launch} {G : jG} (hG : jX G) {k6 : Int32 → Int32 → Int32 → Int32 → Int32 → jW → Option (Int32 × jW)} {k50 : Int32 → Int32 → Int32 → Int32 → Int32 → Int32 → Int32 → jW → Option (Int32 × jW)} (hk6 : ∀ (x1 : Int32) (x2 : Int32) (x3 : Int32) (x4 : Int32) (x5 : Int32) (w : jW) (z : (Int32 × jW)), k6 x1 x2 x3 x4 x5 w = some z → Ev l G (jrm d_Model_find 0 0) y_Model_find (some (.int z.1), jR0, z.2) 0 0 0 0 6 [some (.ref 93), some (.int x1), some (.int x2), some (.int x3), some (.int x4), some (.int x5), none, none, none] [] jR0 w) (hk50 : ∀ (x1 : Int32) (x2 : Int32) (x3 : Int32) (x4 : Int32) (x5 : Int32) (x6 : Int32) (x7 : Int32) (w : jW) (z : (Int32 × jW)), k50 x1 x2 x3 x4 x5 x6 x7 w = some z → Ev l G (jrm d_Model_find 0 0) y_Model_find (some (.int z.1), jR0, z.2) 0 0 0 0 50 [some (.ref 93), some (.int x1), some (.int x2), some (.int x3), some (.int x4), some (.int x5), some (.int x6), some (.int x7), none] [] jR0 w) : ∀ (n : Nat) (x1 : Int32) (x2 : Int32) (x3 : Int32) (x4 : Int32) (x5 : Int32) (x6 : Int32) (x7 : Int32) (x8 : Int32) (w : jW) (z : (Int32 × jW)), f_Model_find_h108 k6 k50 n x1 x2 x3 x4 x5 x6 x7 x8 w = some z → Ev l G (jrm d_Model_find 0 0) y_Model_find (some (.int z.1), jR0, z.2) 0 0 0 0 108 [some (.ref 93), some (.int x1), some (.int x2), some (.int x3), some (.int x4), some (.int x5), some (.int x6), some (.int x7), some (.int x8)] [] jR0 w := by
  intro n
  induction n with
  | zero => intro x1 x2 x3 x4 x5 x6 x7 x8 w z h; simp only [f_Model_find_h108] at h; cases h
  | succ n ih =>
    intro x1 x2 x3 x4 x5 x6 x7 x8 w z h
    rw [f_Model_find_h108] at h
    obtain ⟨hg7, h⟩ := jgd h
    refine ev_seg (o := 10) (nL := 9) (q := 118) (xs := [(.iload 8, 2, 8, 0, .null), (.aload_n 0, 1, 0, 0, .null), (.getfield 7, 3, 10, 0, .ref 20), (.iconst 0, 1, 0, 0, .int 0), (.iaload, 1, 0, 0, .null), (.iload_n 2, 1, 2, 0, .null), (.iadd, 1, 0, 0, .null)]) (L' := [some (.ref 93), some (.int x1), some (.int x2), some (.int x3), some (.int x4), some (.int x5), some (.int x6), some (.int x7), some (.int x8)]) (st' := [.int ((w.1 94 (Int32.toNatClampNeg 0)) + x2), .int x8]) (w' := w) (g := [jin 0 21000]) (K := [(94, 20), (94, 20), (93, 10)]) (by decide +kernel) rfl rfl rfl hg7 (jk1 kz_94 (jk1 kz_94 (jk1 kz_93 jk0))) ?_
    refine ev_icmp_ge (off := 75) (tgt := 193) (by decide +kernel) (by decide) (fun c17 => ?_) (fun c17 => ?_)
    · replace h := jneg c17 h
      refine ev_seg (o := 10) (nL := 9) (q := 50) (xs := [(.iinc 7 1, 3, 7, 0, .int 1), (.goto (-146), 3, 0, 0, .null)]) (L' := [some (.ref 93), some (.int x1), some (.int x2), some (.int x3), some (.int x4), some (.int x5), some (.int x6), some (.int (x7 + 1)), some (.int x8)]) (st' := []) (w' := w) (g := []) (K := []) (by decide +kernel) rfl rfl rfl rfl jk0 ?_
      refine ev_mask [true, true, true, true, true, true, true, true, false] ?_
      exact hk50 _ _ _ _ _ _ _ _ _ h
    · replace h := jpos c17 h
      refine ev_seg (o := 10) (nL := 9) (q := 126) (xs := [(.iload 8, 2, 8, 0, .null), (.sipush 1999, 3, 0, 0, .int 1999)]) (L' := [some (.ref 93), some (.int x1), some (.int x2), some (.int x3), some (.int x4), some (.int x5), some (.int x6), some (.int x7), some (.int x8)]) (st' := [.int 1999, .int x8]) (w' := w) (g := []) (K := []) (by decide +kernel) rfl rfl rfl rfl jk0 ?_
      refine ev_icmp_gt (off := 67) (tgt := 193) (by decide +kernel) (by decide) (fun c16 => ?_) (fun c16 => ?_)
      · replace h := jneg c16 h
        refine ev_seg (o := 10) (nL := 9) (q := 50) (xs := [(.iinc 7 1, 3, 7, 0, .int 1), (.goto (-146), 3, 0, 0, .null)]) (L' := [some (.ref 93), some (.int x1), some (.int x2), some (.int x3), some (.int x4), some (.int x5), some (.int x6), some (.int (x7 + 1)), some (.int x8)]) (st' := []) (w' := w) (g := []) (K := []) (by decide +kernel) rfl rfl rfl rfl jk0 ?_
        refine ev_mask [true, true, true, true, true, true, true, true, false] ?_
        exact hk50 _ _ _ _ _ _ _ _ _ h
      · replace h := jpos c16 h
        refine ev_seg (o := 10) (nL := 9) (q := 136) (xs := [(.aload_n 0, 1, 0, 0, .null), (.iload 5, 2, 5, 0, .null), (.iload 6, 2, 6, 0, .null), (.iload 8, 2, 8, 0, .null)]) (L' := [some (.ref 93), some (.int x1), some (.int x2), some (.int x3), some (.int x4), some (.int x5), some (.int x6), some (.int x7), some (.int x8)]) (st' := [.int x8, .int x6, .int x5, .ref 93]) (w' := w) (g := []) (K := []) (by decide +kernel) rfl rfl rfl rfl jk0 ?_
        obtain ⟨q8, hq8, h⟩ := jbe h
        refine ev_callV (ci := 10) (a := 93) (y2 := y_Model_isSeen) (o := 10) (idx := 346) (d2 := d_Model_isSeen) (n := 3) (mc2 := 0) (ms2 := 0) (As := [.int x5, .int x6, .int x8]) (st := []) (res2 := (some (.int q8.1), jR0, q8.2)) (by decide +kernel) rfl lk_10_346 mo_Model_isSeen mv_Model_isSeen ⟨Nat.le_of_ble_eq_true rfl, Nat.le_of_ble_eq_true rfl⟩ rfl rfl kz_93 (by decide) rfl (Nat.le_of_ble_eq_true rfl) ⟨Nat.le_refl _, Nat.le_refl _⟩ hG (e_Model_isSeen hG hq8) ?_
        refine ev_if_ne (off := 48) (tgt := 187) (by decide +kernel) (by decide) (fun c15 => ?_) (fun c15 => ?_)
        · replace h := jneg c15 h
          refine ev_seg (o := 10) (nL := 9) (q := 108) (xs := [(.iinc 8 1, 3, 8, 0, .int 1), (.goto (-82), 3, 0, 0, .null)]) (L' := [some (.ref 93), some (.int x1), some (.int x2), some (.int x3), some (.int x4), some (.int x5), some (.int x6), some (.int x7), some (.int (x8 + 1))]) (st' := []) (w' := q8.2) (g := []) (K := []) (by decide +kernel) rfl rfl rfl rfl jk0 ?_
          refine ev_mask [true, true, true, true, true, true, true, true, true] ?_
          exact ih _ _ _ _ _ _ _ _ _ _ h
        · replace h := jpos c15 h
          refine ev_seg (o := 10) (nL := 9) (q := 149) (xs := [(.aload_n 0, 1, 0, 0, .null), (.iload 5, 2, 5, 0, .null), (.iload 7, 2, 7, 0, .null), (.iload 8, 2, 8, 0, .null)]) (L' := [some (.ref 93), some (.int x1), some (.int x2), some (.int x3), some (.int x4), some (.int x5), some (.int x6), some (.int x7), some (.int x8)]) (st' := [.int x8, .int x7, .int x5, .ref 93]) (w' := q8.2) (g := []) (K := []) (by decide +kernel) rfl rfl rfl rfl jk0 ?_
          obtain ⟨q9, hq9, h⟩ := jbe h
          refine ev_callV (ci := 10) (a := 93) (y2 := y_Model_isSeen) (o := 10) (idx := 346) (d2 := d_Model_isSeen) (n := 3) (mc2 := 0) (ms2 := 0) (As := [.int x5, .int x7, .int x8]) (st := []) (res2 := (some (.int q9.1), jR0, q9.2)) (by decide +kernel) rfl lk_10_346 mo_Model_isSeen mv_Model_isSeen ⟨Nat.le_of_ble_eq_true rfl, Nat.le_of_ble_eq_true rfl⟩ rfl rfl kz_93 (by decide) rfl (Nat.le_of_ble_eq_true rfl) ⟨Nat.le_refl _, Nat.le_refl _⟩ hG (e_Model_isSeen hG hq9) ?_
          refine ev_if_eq (off := 6) (tgt := 158) (by decide +kernel) (by decide) (fun c14 => ?_) (fun c14 => ?_)
          · replace h := jpos c14 h
            refine ev_seg (o := 10) (nL := 9) (q := 164) (xs := [(.aload_n 0, 1, 0, 0, .null), (.iload 5, 2, 5, 0, .null), (.putfield 349, 3, 10, 23, .int 0)]) (L' := [some (.ref 93), some (.int x1), some (.int x2), some (.int x3), some (.int x4), some (.int x5), some (.int x6), some (.int x7), some (.int x8)]) (st' := []) (w' := ((jup q9.2.1 93 23 x5), q9.2.2)) (g := []) (K := [(93, 10)]) (by decide +kernel) rfl rfl rfl rfl (jk1 kz_93 jk0) ?_
            refine jlw_c (P := fun w10 => Ev l G (jrm d_Model_find 0 0) y_Model_find (some (.int z.1), jR0, z.2) 0 0 0 0 164 [some (.ref 93), some (.int x1), some (.int x2), some (.int x3), some (.int x4), some (.int x5), some (.int x6), some (.int x7), some (.int x8)] [] jR0 w10) h fun w10 h => ?_
            refine ev_seg (o := 10) (nL := 9) (q := 170) (xs := [(.aload_n 0, 1, 0, 0, .null), (.iload 7, 2, 7, 0, .null), (.putfield 352, 3, 10, 24, .int 0)]) (L' := [some (.ref 93), some (.int x1), some (.int x2), some (.int x3), some (.int x4), some (.int x5), some (.int x6), some (.int x7), some (.int x8)]) (st' := []) (w' := ((jup w10.1 93 24 x7), w10.2)) (g := []) (K := [(93, 10)]) (by decide +kernel) rfl rfl rfl rfl (jk1 kz_93 jk0) ?_
            refine jlw_c (P := fun w11 => Ev l G (jrm d_Model_find 0 0) y_Model_find (some (.int z.1), jR0, z.2) 0 0 0 0 170 [some (.ref 93), some (.int x1), some (.int x2), some (.int x3), some (.int x4), some (.int x5), some (.int x6), some (.int x7), some (.int x8)] [] jR0 w11) h fun w11 h => ?_
            refine ev_seg (o := 10) (nL := 9) (q := 176) (xs := [(.aload_n 0, 1, 0, 0, .null), (.iload 8, 2, 8, 0, .null), (.putfield 355, 3, 10, 25, .int 0)]) (L' := [some (.ref 93), some (.int x1), some (.int x2), some (.int x3), some (.int x4), some (.int x5), some (.int x6), some (.int x7), some (.int x8)]) (st' := []) (w' := ((jup w11.1 93 25 x8), w11.2)) (g := []) (K := [(93, 10)]) (by decide +kernel) rfl rfl rfl rfl (jk1 kz_93 jk0) ?_
            refine jlw_c (P := fun w12 => Ev l G (jrm d_Model_find 0 0) y_Model_find (some (.int z.1), jR0, z.2) 0 0 0 0 176 [some (.ref 93), some (.int x1), some (.int x2), some (.int x3), some (.int x4), some (.int x5), some (.int x6), some (.int x7), some (.int x8)] [] jR0 w12) h fun w12 h => ?_
            refine ev_seg (o := 10) (nL := 9) (q := 179) (xs := [(.iload 4, 2, 4, 0, .null), (.iload_n 3, 1, 3, 0, .null)]) (L' := [some (.ref 93), some (.int x1), some (.int x2), some (.int x3), some (.int x4), some (.int x5), some (.int x6), some (.int x7), some (.int x8)]) (st' := [.int x3, .int x4]) (w' := w12) (g := []) (K := []) (by decide +kernel) rfl rfl rfl rfl jk0 ?_
            refine ev_icmp_ne (off := 5) (tgt := 184) (by decide +kernel) (by decide) (fun c13 => ?_) (fun c13 => ?_)
            · replace h := jneg c13 h
              refine ev_seg (o := 10) (nL := 9) (q := 108) (xs := [(.iinc 4 1, 3, 4, 0, .int 1), (.iinc 8 1, 3, 8, 0, .int 1), (.goto (-82), 3, 0, 0, .null)]) (L' := [some (.ref 93), some (.int x1), some (.int x2), some (.int x3), some (.int (x4 + 1)), some (.int x5), some (.int x6), some (.int x7), some (.int (x8 + 1))]) (st' := []) (w' := w12) (g := []) (K := []) (by decide +kernel) rfl rfl rfl rfl jk0 ?_
              refine ev_mask [true, true, true, true, true, true, true, true, true] ?_
              exact ih _ _ _ _ _ _ _ _ _ _ h
            · replace h := jpos c13 h
              refine ev_seg (o := 10) (nL := 9) (q := 183) (xs := [(.iconst (-1), 1, 0, 0, .int (-1))]) (L' := [some (.ref 93), some (.int x1), some (.int x2), some (.int x3), some (.int x4), some (.int x5), some (.int x6), some (.int x7), some (.int x8)]) (st' := [.int (-1)]) (w' := w12) (g := []) (K := []) (by decide +kernel) rfl rfl rfl rfl jk0 ?_
              cases h
              exact ev_iret (by decide +kernel) rfl rfl rfl rfl
          · replace h := jneg c14 h
            refine ev_seg (o := 10) (nL := 9) (q := 108) (xs := [(.goto 32, 3, 0, 0, .null), (.iinc 8 1, 3, 8, 0, .int 1), (.goto (-82), 3, 0, 0, .null)]) (L' := [some (.ref 93), some (.int x1), some (.int x2), some (.int x3), some (.int x4), some (.int x5), some (.int x6), some (.int x7), some (.int (x8 + 1))]) (st' := []) (w' := q9.2) (g := []) (K := []) (by decide +kernel) rfl rfl rfl rfl jk0 ?_
            refine ev_mask [true, true, true, true, true, true, true, true, true] ?_
            exact ih _ _ _ _ _ _ _ _ _ _ h
def f_Model_find_h50 (k6 : Int32 → Int32 → Int32 → Int32 → Int32 → jW → Option (Int32 × jW)) : Nat → Int32 → Int32 → Int32 → Int32 → Int32 → Int32 → Int32 → jW → Option (Int32 × jW)
  | 0, _, _, _, _, _, _, _, _ => none
  | n + 1, x1, x2, x3, x4, x5, x6, x7, w =>
  if jal [jin 1 21000] = true then
  if x7 < (w.1 94 (Int32.toNatClampNeg 1)) then
    if x6 < 100 then
      if x7 = x6 then
        (f_Model_find_h50 k6 n) x1 x2 x3 x4 x5 x6 (x7 + 1) w
      else
        Option.bind (f_Model_siteAt x7 0 w) fun q4 =>
        if q4.1 = x1 then
          Option.bind (f_Model_wayOf x6 x7 q4.2) fun q5 =>
          if q5.1 < 0 then
            (f_Model_find_h50 k6 n) x1 x2 x3 x4 x5 x6 (x7 + 1) q5.2
          else
            if jal [jin 0 21000] = true then
            f_Model_find_h108 k6 (f_Model_find_h50 k6 n) jfu x1 x2 x3 x4 x5 x6 x7 (q5.2.1 94 (Int32.toNatClampNeg 0)) q5.2
            else none
        else
          (f_Model_find_h50 k6 n) x1 x2 x3 x4 x5 x6 (x7 + 1) q4.2
    else
      k6 x1 x2 x3 x4 (x5 + 1) w
  else
    k6 x1 x2 x3 x4 (x5 + 1) w
  else none
set_option maxRecDepth 20000 in
theorem t_Model_find_h50 {l : Launch} {G : jG} (hG : jX G) {k6 : Int32 → Int32 → Int32 → Int32 → Int32 → jW → Option (Int32 × jW)} (hk6 : ∀ (x1 : Int32) (x2 : Int32) (x3 : Int32) (x4 : Int32) (x5 : Int32) (w : jW) (z : (Int32 × jW)), k6 x1 x2 x3 x4 x5 w = some z → Ev l G (jrm d_Model_find 0 0) y_Model_find (some (.int z.1), jR0, z.2) 0 0 0 0 6 [some (.ref 93), some (.int x1), some (.int x2), some (.int x3), some (.int x4), some (.int x5), none, none, none] [] jR0 w) : ∀ (n : Nat) (x1 : Int32) (x2 : Int32) (x3 : Int32) (x4 : Int32) (x5 : Int32) (x6 : Int32) (x7 : Int32) (w : jW) (z : (Int32 × jW)), f_Model_find_h50 k6 n x1 x2 x3 x4 x5 x6 x7 w = some z → Ev l G (jrm d_Model_find 0 0) y_Model_find (some (.int z.1), jR0, z.2) 0 0 0 0 50 [some (.ref 93), some (.int x1), some (.int x2), some (.int x3), some (.int x4), some (.int x5), some (.int x6), some (.int x7), none] [] jR0 w := by
  intro n
  induction n with
  | zero => intro x1 x2 x3 x4 x5 x6 x7 w z h; simp only [f_Model_find_h50] at h; cases h
  | succ n ih =>
    intro x1 x2 x3 x4 x5 x6 x7 w z h
    rw [f_Model_find_h50] at h
    obtain ⟨hg3, h⟩ := jgd h
    refine ev_seg (o := 10) (nL := 9) (q := 58) (xs := [(.iload 7, 2, 7, 0, .null), (.aload_n 0, 1, 0, 0, .null), (.getfield 7, 3, 10, 0, .ref 20), (.iconst 1, 1, 0, 0, .int 1), (.iaload, 1, 0, 0, .null)]) (L' := [some (.ref 93), some (.int x1), some (.int x2), some (.int x3), some (.int x4), some (.int x5), some (.int x6), some (.int x7), none]) (st' := [.int (w.1 94 (Int32.toNatClampNeg 1)), .int x7]) (w' := w) (g := [jin 1 21000]) (K := [(94, 20), (94, 20), (93, 10)]) (by decide +kernel) rfl rfl rfl hg3 (jk1 kz_94 (jk1 kz_94 (jk1 kz_93 jk0))) ?_
    refine ev_icmp_ge (off := 141) (tgt := 199) (by decide +kernel) (by decide) (fun c22 => ?_) (fun c22 => ?_)
    · replace h := jneg c22 h
      refine ev_seg (o := 10) (nL := 9) (q := 6) (xs := [(.iinc 5 1, 3, 5, 0, .int 1), (.goto (-196), 3, 0, 0, .null)]) (L' := [some (.ref 93), some (.int x1), some (.int x2), some (.int x3), some (.int x4), some (.int (x5 + 1)), some (.int x6), some (.int x7), none]) (st' := []) (w' := w) (g := []) (K := []) (by decide +kernel) rfl rfl rfl rfl jk0 ?_
      refine ev_mask [true, true, true, true, true, true, false, false, false] ?_
      exact hk6 _ _ _ _ _ _ _ h
    · replace h := jpos c22 h
      refine ev_seg (o := 10) (nL := 9) (q := 65) (xs := [(.iload 6, 2, 6, 0, .null), (.bipush 100, 2, 0, 0, .int 100)]) (L' := [some (.ref 93), some (.int x1), some (.int x2), some (.int x3), some (.int x4), some (.int x5), some (.int x6), some (.int x7), none]) (st' := [.int 100, .int x6]) (w' := w) (g := []) (K := []) (by decide +kernel) rfl rfl rfl rfl jk0 ?_
      refine ev_icmp_ge (off := 134) (tgt := 199) (by decide +kernel) (by decide) (fun c21 => ?_) (fun c21 => ?_)
      · replace h := jneg c21 h
        refine ev_seg (o := 10) (nL := 9) (q := 6) (xs := [(.iinc 5 1, 3, 5, 0, .int 1), (.goto (-196), 3, 0, 0, .null)]) (L' := [some (.ref 93), some (.int x1), some (.int x2), some (.int x3), some (.int x4), some (.int (x5 + 1)), some (.int x6), some (.int x7), none]) (st' := []) (w' := w) (g := []) (K := []) (by decide +kernel) rfl rfl rfl rfl jk0 ?_
        refine ev_mask [true, true, true, true, true, true, false, false, false] ?_
        exact hk6 _ _ _ _ _ _ _ h
      · replace h := jpos c21 h
        refine ev_seg (o := 10) (nL := 9) (q := 72) (xs := [(.iload 7, 2, 7, 0, .null), (.iload 6, 2, 6, 0, .null)]) (L' := [some (.ref 93), some (.int x1), some (.int x2), some (.int x3), some (.int x4), some (.int x5), some (.int x6), some (.int x7), none]) (st' := [.int x6, .int x7]) (w' := w) (g := []) (K := []) (by decide +kernel) rfl rfl rfl rfl jk0 ?_
        refine ev_icmp_eq (off := 121) (tgt := 193) (by decide +kernel) (by decide) (fun c20 => ?_) (fun c20 => ?_)
        · replace h := jpos c20 h
          refine ev_seg (o := 10) (nL := 9) (q := 50) (xs := [(.iinc 7 1, 3, 7, 0, .int 1), (.goto (-146), 3, 0, 0, .null)]) (L' := [some (.ref 93), some (.int x1), some (.int x2), some (.int x3), some (.int x4), some (.int x5), some (.int x6), some (.int (x7 + 1)), none]) (st' := []) (w' := w) (g := []) (K := []) (by decide +kernel) rfl rfl rfl rfl jk0 ?_
          refine ev_mask [true, true, true, true, true, true, true, true, false] ?_
          exact ih _ _ _ _ _ _ _ _ _ h
        · replace h := jneg c20 h
          refine ev_seg (o := 10) (nL := 9) (q := 79) (xs := [(.aload_n 0, 1, 0, 0, .null), (.iload 7, 2, 7, 0, .null), (.iconst 0, 1, 0, 0, .int 0)]) (L' := [some (.ref 93), some (.int x1), some (.int x2), some (.int x3), some (.int x4), some (.int x5), some (.int x6), some (.int x7), none]) (st' := [.int 0, .int x7, .ref 93]) (w' := w) (g := []) (K := []) (by decide +kernel) rfl rfl rfl rfl jk0 ?_
          obtain ⟨q4, hq4, h⟩ := jbe h
          refine ev_callV (ci := 10) (a := 93) (y2 := y_Model_siteAt) (o := 10) (idx := 54) (d2 := d_Model_siteAt) (n := 2) (mc2 := 0) (ms2 := 0) (As := [.int x7, .int 0]) (st := []) (res2 := (some (.int q4.1), jR0, q4.2)) (by decide +kernel) rfl lk_10_54 mo_Model_siteAt mv_Model_siteAt ⟨Nat.le_of_ble_eq_true rfl, Nat.le_of_ble_eq_true rfl⟩ rfl rfl kz_93 (by decide) rfl (Nat.le_of_ble_eq_true rfl) ⟨Nat.le_refl _, Nat.le_refl _⟩ hG (e_Model_siteAt hG hq4) ?_
          refine ev_seg (o := 10) (nL := 9) (q := 83) (xs := [(.iload_n 1, 1, 1, 0, .null)]) (L' := [some (.ref 93), some (.int x1), some (.int x2), some (.int x3), some (.int x4), some (.int x5), some (.int x6), some (.int x7), none]) (st' := [.int x1, .int q4.1]) (w' := q4.2) (g := []) (K := []) (by decide +kernel) rfl rfl rfl rfl jk0 ?_
          refine ev_icmp_ne (off := 110) (tgt := 193) (by decide +kernel) (by decide) (fun c19 => ?_) (fun c19 => ?_)
          · replace h := jneg c19 h
            refine ev_seg (o := 10) (nL := 9) (q := 50) (xs := [(.iinc 7 1, 3, 7, 0, .int 1), (.goto (-146), 3, 0, 0, .null)]) (L' := [some (.ref 93), some (.int x1), some (.int x2), some (.int x3), some (.int x4), some (.int x5), some (.int x6), some (.int (x7 + 1)), none]) (st' := []) (w' := q4.2) (g := []) (K := []) (by decide +kernel) rfl rfl rfl rfl jk0 ?_
            refine ev_mask [true, true, true, true, true, true, true, true, false] ?_
            exact ih _ _ _ _ _ _ _ _ _ h
          · replace h := jpos c19 h
            refine ev_seg (o := 10) (nL := 9) (q := 91) (xs := [(.aload_n 0, 1, 0, 0, .null), (.iload 6, 2, 6, 0, .null), (.iload 7, 2, 7, 0, .null)]) (L' := [some (.ref 93), some (.int x1), some (.int x2), some (.int x3), some (.int x4), some (.int x5), some (.int x6), some (.int x7), none]) (st' := [.int x7, .int x6, .ref 93]) (w' := q4.2) (g := []) (K := []) (by decide +kernel) rfl rfl rfl rfl jk0 ?_
            obtain ⟨q5, hq5, h⟩ := jbe h
            refine ev_callV (ci := 10) (a := 93) (y2 := y_Model_wayOf) (o := 10) (idx := 59) (d2 := d_Model_wayOf) (n := 2) (mc2 := 0) (ms2 := 0) (As := [.int x6, .int x7]) (st := []) (res2 := (some (.int q5.1), jR0, q5.2)) (by decide +kernel) rfl lk_10_59 mo_Model_wayOf mv_Model_wayOf ⟨Nat.le_of_ble_eq_true rfl, Nat.le_of_ble_eq_true rfl⟩ rfl rfl kz_93 (by decide) rfl (Nat.le_of_ble_eq_true rfl) ⟨Nat.le_refl _, Nat.le_refl _⟩ hG (e_Model_wayOf hG hq5) ?_
            refine ev_if_ge (off := 6) (tgt := 100) (by decide +kernel) (by decide) (fun c18 => ?_) (fun c18 => ?_)
            · replace h := jneg c18 h
              obtain ⟨hg6, h⟩ := jgd h
              refine ev_seg (o := 10) (nL := 9) (q := 108) (xs := [(.aload_n 0, 1, 0, 0, .null), (.getfield 7, 3, 10, 0, .ref 20), (.iconst 0, 1, 0, 0, .int 0), (.iaload, 1, 0, 0, .null), (.istore 8, 2, 8, 0, .null)]) (L' := [some (.ref 93), some (.int x1), some (.int x2), some (.int x3), some (.int x4), some (.int x5), some (.int x6), some (.int x7), some (.int (q5.2.1 94 (Int32.toNatClampNeg 0)))]) (st' := []) (w' := q5.2) (g := [jin 0 21000]) (K := [(94, 20), (94, 20), (93, 10)]) (by decide +kernel) rfl rfl rfl hg6 (jk1 kz_94 (jk1 kz_94 (jk1 kz_93 jk0))) ?_
              refine ev_mask [true, true, true, true, true, true, true, true, true] ?_
              exact t_Model_find_h108 hG hk6 ih jfu _ _ _ _ _ _ _ _ _ _ h
            · replace h := jpos c18 h
              refine ev_seg (o := 10) (nL := 9) (q := 50) (xs := [(.goto 96, 3, 0, 0, .null), (.iinc 7 1, 3, 7, 0, .int 1), (.goto (-146), 3, 0, 0, .null)]) (L' := [some (.ref 93), some (.int x1), some (.int x2), some (.int x3), some (.int x4), some (.int x5), some (.int x6), some (.int (x7 + 1)), none]) (st' := []) (w' := q5.2) (g := []) (K := []) (by decide +kernel) rfl rfl rfl rfl jk0 ?_
              refine ev_mask [true, true, true, true, true, true, true, true, false] ?_
              exact ih _ _ _ _ _ _ _ _ _ h
def f_Model_find_j45 (k6 : Int32 → Int32 → Int32 → Int32 → Int32 → jW → Option (Int32 × jW)) (x1 : Int32) (x2 : Int32) (x3 : Int32) (x4 : Int32) (x5 : Int32) (s0 : Int32) (w : jW) : Option (Int32 × jW) :=
  f_Model_find_h50 k6 jfu x1 x2 x3 x4 x5 s0 0 w
set_option maxRecDepth 20000 in
theorem t_Model_find_j45 {l : Launch} {G : jG} (hG : jX G) {k6 : Int32 → Int32 → Int32 → Int32 → Int32 → jW → Option (Int32 × jW)} (hk6 : ∀ (x1 : Int32) (x2 : Int32) (x3 : Int32) (x4 : Int32) (x5 : Int32) (w : jW) (z : (Int32 × jW)), k6 x1 x2 x3 x4 x5 w = some z → Ev l G (jrm d_Model_find 0 0) y_Model_find (some (.int z.1), jR0, z.2) 0 0 0 0 6 [some (.ref 93), some (.int x1), some (.int x2), some (.int x3), some (.int x4), some (.int x5), none, none, none] [] jR0 w) {x1 : Int32} {x2 : Int32} {x3 : Int32} {x4 : Int32} {x5 : Int32} {s0 : Int32} {w : jW} {z : (Int32 × jW)} (h : f_Model_find_j45 k6 x1 x2 x3 x4 x5 s0 w = some z) : Ev l G (jrm d_Model_find 0 0) y_Model_find (some (.int z.1), jR0, z.2) 0 0 0 0 45 [some (.ref 93), some (.int x1), some (.int x2), some (.int x3), some (.int x4), some (.int x5), none, none, none] [.int s0] jR0 w := by
  rw [f_Model_find_j45] at h
  refine ev_seg (o := 10) (nL := 9) (q := 50) (xs := [(.istore 6, 2, 6, 0, .null), (.iconst 0, 1, 0, 0, .int 0), (.istore 7, 2, 7, 0, .null)]) (L' := [some (.ref 93), some (.int x1), some (.int x2), some (.int x3), some (.int x4), some (.int x5), some (.int s0), some (.int 0), none]) (st' := []) (w' := w) (g := []) (K := []) (by decide +kernel) rfl rfl rfl rfl jk0 ?_
  refine ev_mask [true, true, true, true, true, true, true, true, false] ?_
  exact t_Model_find_h50 hG hk6 jfu _ _ _ _ _ _ _ _ _ h
def f_Model_find_h6 : Nat → Int32 → Int32 → Int32 → Int32 → Int32 → jW → Option (Int32 × jW)
  | 0, _, _, _, _, _, _ => none
  | n + 1, x1, x2, x3, x4, x5, w =>
  if jal [jin 3 21000] = true then
  if x5 < (w.1 94 (Int32.toNatClampNeg 3)) then
    Option.bind (f_Model_thingAt x5 3 w) fun q2 =>
    if q2.1 = x1 then
      if jal [jin 0 21000] = true then
      Option.bind (f_Model_whereOf x5 (q2.2.1 94 (Int32.toNatClampNeg 0)) q2.2) fun q24 =>
      f_Model_find_j45 (f_Model_find_h6 n) x1 x2 x3 x4 x5 q24.1 q24.2
      else none
    else
      f_Model_find_j45 (f_Model_find_h6 n) x1 x2 x3 x4 x5 100 q2.2
  else
    some (x4, w)
  else none
set_option maxRecDepth 20000 in
theorem t_Model_find_h6 {l : Launch} {G : jG} (hG : jX G) : ∀ (n : Nat) (x1 : Int32) (x2 : Int32) (x3 : Int32) (x4 : Int32) (x5 : Int32) (w : jW) (z : (Int32 × jW)), f_Model_find_h6 n x1 x2 x3 x4 x5 w = some z → Ev l G (jrm d_Model_find 0 0) y_Model_find (some (.int z.1), jR0, z.2) 0 0 0 0 6 [some (.ref 93), some (.int x1), some (.int x2), some (.int x3), some (.int x4), some (.int x5), none, none, none] [] jR0 w := by
  intro n
  induction n with
  | zero => intro x1 x2 x3 x4 x5 w z h; simp only [f_Model_find_h6] at h; cases h
  | succ n ih =>
    intro x1 x2 x3 x4 x5 w z h
    rw [f_Model_find_h6] at h
    obtain ⟨hg1, h⟩ := jgd h
    refine ev_seg (o := 10) (nL := 9) (q := 14) (xs := [(.iload 5, 2, 5, 0, .null), (.aload_n 0, 1, 0, 0, .null), (.getfield 7, 3, 10, 0, .ref 20), (.iconst 3, 1, 0, 0, .int 3), (.iaload, 1, 0, 0, .null)]) (L' := [some (.ref 93), some (.int x1), some (.int x2), some (.int x3), some (.int x4), some (.int x5), none, none, none]) (st' := [.int (w.1 94 (Int32.toNatClampNeg 3)), .int x5]) (w' := w) (g := [jin 3 21000]) (K := [(94, 20), (94, 20), (93, 10)]) (by decide +kernel) rfl rfl rfl hg1 (jk1 kz_94 (jk1 kz_94 (jk1 kz_93 jk0))) ?_
    refine ev_icmp_ge (off := 191) (tgt := 205) (by decide +kernel) (by decide) (fun c26 => ?_) (fun c26 => ?_)
    · replace h := jneg c26 h
      refine ev_seg (o := 10) (nL := 9) (q := 207) (xs := [(.iload 4, 2, 4, 0, .null)]) (L' := [some (.ref 93), some (.int x1), some (.int x2), some (.int x3), some (.int x4), some (.int x5), none, none, none]) (st' := [.int x4]) (w' := w) (g := []) (K := []) (by decide +kernel) rfl rfl rfl rfl jk0 ?_
      cases h
      exact ev_iret (by decide +kernel) rfl rfl rfl rfl
    · replace h := jpos c26 h
      refine ev_seg (o := 10) (nL := 9) (q := 21) (xs := [(.aload_n 0, 1, 0, 0, .null), (.iload 5, 2, 5, 0, .null), (.iconst 3, 1, 0, 0, .int 3)]) (L' := [some (.ref 93), some (.int x1), some (.int x2), some (.int x3), some (.int x4), some (.int x5), none, none, none]) (st' := [.int 3, .int x5, .ref 93]) (w' := w) (g := []) (K := []) (by decide +kernel) rfl rfl rfl rfl jk0 ?_
      obtain ⟨q2, hq2, h⟩ := jbe h
      refine ev_callV (ci := 10) (a := 93) (y2 := y_Model_thingAt) (o := 10) (idx := 66) (d2 := d_Model_thingAt) (n := 2) (mc2 := 0) (ms2 := 0) (As := [.int x5, .int 3]) (st := []) (res2 := (some (.int q2.1), jR0, q2.2)) (by decide +kernel) rfl lk_10_66 mo_Model_thingAt mv_Model_thingAt ⟨Nat.le_of_ble_eq_true rfl, Nat.le_of_ble_eq_true rfl⟩ rfl rfl kz_93 (by decide) rfl (Nat.le_of_ble_eq_true rfl) ⟨Nat.le_refl _, Nat.le_refl _⟩ hG (e_Model_thingAt hG hq2) ?_
      refine ev_seg (o := 10) (nL := 9) (q := 25) (xs := [(.iload_n 1, 1, 1, 0, .null)]) (L' := [some (.ref 93), some (.int x1), some (.int x2), some (.int x3), some (.int x4), some (.int x5), none, none, none]) (st' := [.int x1, .int q2.1]) (w' := q2.2) (g := []) (K := []) (by decide +kernel) rfl rfl rfl rfl jk0 ?_
      refine ev_icmp_ne (off := 18) (tgt := 43) (by decide +kernel) (by decide) (fun c25 => ?_) (fun c25 => ?_)
      · replace h := jneg c25 h
        refine ev_seg (o := 10) (nL := 9) (q := 45) (xs := [(.bipush 100, 2, 0, 0, .int 100)]) (L' := [some (.ref 93), some (.int x1), some (.int x2), some (.int x3), some (.int x4), some (.int x5), none, none, none]) (st' := [.int 100]) (w' := q2.2) (g := []) (K := []) (by decide +kernel) rfl rfl rfl rfl jk0 ?_
        refine ev_mask [true, true, true, true, true, true, false, false, false] ?_
        exact t_Model_find_j45 hG ih h
      · replace h := jpos c25 h
        obtain ⟨hg23, h⟩ := jgd h
        refine ev_seg (o := 10) (nL := 9) (q := 37) (xs := [(.aload_n 0, 1, 0, 0, .null), (.iload 5, 2, 5, 0, .null), (.aload_n 0, 1, 0, 0, .null), (.getfield 7, 3, 10, 0, .ref 20), (.iconst 0, 1, 0, 0, .int 0), (.iaload, 1, 0, 0, .null)]) (L' := [some (.ref 93), some (.int x1), some (.int x2), some (.int x3), some (.int x4), some (.int x5), none, none, none]) (st' := [.int (q2.2.1 94 (Int32.toNatClampNeg 0)), .int x5, .ref 93]) (w' := q2.2) (g := [jin 0 21000]) (K := [(94, 20), (94, 20), (93, 10)]) (by decide +kernel) rfl rfl rfl hg23 (jk1 kz_94 (jk1 kz_94 (jk1 kz_93 jk0))) ?_
        obtain ⟨q24, hq24, h⟩ := jbe h
        refine ev_callV (ci := 10) (a := 93) (y2 := y_Model_whereOf) (o := 10) (idx := 78) (d2 := d_Model_whereOf) (n := 2) (mc2 := 0) (ms2 := 0) (As := [.int x5, .int (q2.2.1 94 (Int32.toNatClampNeg 0))]) (st := []) (res2 := (some (.int q24.1), jR0, q24.2)) (by decide +kernel) rfl lk_10_78 mo_Model_whereOf mv_Model_whereOf ⟨Nat.le_of_ble_eq_true rfl, Nat.le_of_ble_eq_true rfl⟩ rfl rfl kz_93 (by decide) rfl (Nat.le_of_ble_eq_true rfl) ⟨Nat.le_refl _, Nat.le_refl _⟩ hG (e_Model_whereOf hG hq24) ?_
        refine ev_seg (o := 10) (nL := 9) (q := 45) (xs := [(.goto 5, 3, 0, 0, .null)]) (L' := [some (.ref 93), some (.int x1), some (.int x2), some (.int x3), some (.int x4), some (.int x5), none, none, none]) (st' := [.int q24.1]) (w' := q24.2) (g := []) (K := []) (by decide +kernel) rfl rfl rfl rfl jk0 ?_
        refine ev_mask [true, true, true, true, true, true, false, false, false] ?_
        exact t_Model_find_j45 hG ih h
def f_Model_find (x1 : Int32) (x2 : Int32) (x3 : Int32) (w : jW) : Option (Int32 × jW) :=
  f_Model_find_h6 jfu x1 x2 x3 0 0 w
set_option maxRecDepth 20000 in
theorem e_Model_find {l : Launch} {G : jG} (hG : jX G) {x1 : Int32} {x2 : Int32} {x3 : Int32} {w : jW} {z : (Int32 × jW)} (h : f_Model_find x1 x2 x3 w = some z) : Ct l G y_Model_find d_Model_find 0 0 [.ref 93, .int x1, .int x2, .int x3] jR0 w (some (.int z.1), jR0, z.2) := by
  rw [f_Model_find] at h
  refine Ct.of (L := [some (.ref 93), some (.int x1), some (.int x2), some (.int x3), none, none, none, none, none]) (by decide) (Nat.le_of_ble_eq_true rfl) rfl ?_
  refine ev_seg (o := 10) (nL := 9) (q := 6) (xs := [(.iconst 0, 1, 0, 0, .int 0), (.istore 4, 2, 4, 0, .null), (.iconst 0, 1, 0, 0, .int 0), (.istore 5, 2, 5, 0, .null)]) (L' := [some (.ref 93), some (.int x1), some (.int x2), some (.int x3), some (.int 0), some (.int 0), none, none, none]) (st' := []) (w' := w) (g := []) (K := []) (by decide +kernel) rfl rfl rfl rfl jk0 ?_
  refine ev_mask [true, true, true, true, true, true, false, false, false] ?_
  exact t_Model_find_h6 hG jfu _ _ _ _ _ _ _ h
def f_Model_unseen (x1 : Int32) (x2 : Int32) (w : jW) : Option (Int32 × jW) :=
  Option.bind (f_Model_isIn x1 0 1 w) fun q1 =>
  if q1.1 = 0 then
    some ((-1), q1.2)
  else
    Option.bind (f_Model_isIn x2 1 30 q1.2) fun q2 =>
    if q2.1 = 0 then
      some ((-1), q2.2)
    else
      Option.bind (f_Model_find x1 x2 (-1) q2.2) fun q3 =>
      some (q3.1, q3.2)
set_option maxRecDepth 20000 in
theorem e_Model_unseen {l : Launch} {G : jG} (hG : jX G) {x1 : Int32} {x2 : Int32} {w : jW} {z : (Int32 × jW)} (h : f_Model_unseen x1 x2 w = some z) : Ct l G y_Model_unseen d_Model_unseen 0 0 [.ref 93, .int x1, .int x2] jR0 w (some (.int z.1), jR0, z.2) := by
  rw [f_Model_unseen] at h
  refine Ct.of (L := [some (.ref 93), some (.int x1), some (.int x2)]) (by decide) (Nat.le_of_ble_eq_true rfl) rfl ?_
  refine ev_seg (o := 10) (nL := 3) (q := 3) (xs := [(.iload_n 1, 1, 1, 0, .null), (.iconst 0, 1, 0, 0, .int 0), (.iconst 1, 1, 0, 0, .int 1)]) (L' := [some (.ref 93), some (.int x1), some (.int x2)]) (st' := [.int 1, .int 0, .int x1]) (w' := w) (g := []) (K := []) (by decide +kernel) rfl rfl rfl rfl jk0 ?_
  obtain ⟨q1, hq1, h⟩ := jbe h
  refine ev_callS (y2 := y_Model_isIn) (o := 10) (idx := 46) (d2 := d_Model_isIn) (n := 3) (mc2 := 0) (ms2 := 0) (As := [.int x1, .int 0, .int 1]) (st := []) (res2 := (some (.int q1.1), jR0, q1.2)) (by decide +kernel) rfl lk_10_46 mo_Model_isIn ms_Model_isIn ⟨Nat.le_of_ble_eq_true rfl, Nat.le_of_ble_eq_true rfl⟩ rfl rfl (Nat.le_of_ble_eq_true rfl) ⟨Nat.le_refl _, Nat.le_refl _⟩ hG (e_Model_isIn hG hq1) ?_
  refine ev_if_eq (off := 23) (tgt := 29) (by decide +kernel) (by decide) (fun c5 => ?_) (fun c5 => ?_)
  · replace h := jpos c5 h
    refine ev_seg (o := 10) (nL := 3) (q := 30) (xs := [(.iconst (-1), 1, 0, 0, .int (-1))]) (L' := [some (.ref 93), some (.int x1), some (.int x2)]) (st' := [.int (-1)]) (w' := q1.2) (g := []) (K := []) (by decide +kernel) rfl rfl rfl rfl jk0 ?_
    cases h
    exact ev_iret (by decide +kernel) rfl rfl rfl rfl
  · replace h := jneg c5 h
    refine ev_seg (o := 10) (nL := 3) (q := 13) (xs := [(.iload_n 2, 1, 2, 0, .null), (.iconst 1, 1, 0, 0, .int 1), (.bipush 30, 2, 0, 0, .int 30)]) (L' := [some (.ref 93), some (.int x1), some (.int x2)]) (st' := [.int 30, .int 1, .int x2]) (w' := q1.2) (g := []) (K := []) (by decide +kernel) rfl rfl rfl rfl jk0 ?_
    obtain ⟨q2, hq2, h⟩ := jbe h
    refine ev_callS (y2 := y_Model_isIn) (o := 10) (idx := 46) (d2 := d_Model_isIn) (n := 3) (mc2 := 0) (ms2 := 0) (As := [.int x2, .int 1, .int 30]) (st := []) (res2 := (some (.int q2.1), jR0, q2.2)) (by decide +kernel) rfl lk_10_46 mo_Model_isIn ms_Model_isIn ⟨Nat.le_of_ble_eq_true rfl, Nat.le_of_ble_eq_true rfl⟩ rfl rfl (Nat.le_of_ble_eq_true rfl) ⟨Nat.le_refl _, Nat.le_refl _⟩ hG (e_Model_isIn hG hq2) ?_
    refine ev_if_eq (off := 13) (tgt := 29) (by decide +kernel) (by decide) (fun c4 => ?_) (fun c4 => ?_)
    · replace h := jpos c4 h
      refine ev_seg (o := 10) (nL := 3) (q := 30) (xs := [(.iconst (-1), 1, 0, 0, .int (-1))]) (L' := [some (.ref 93), some (.int x1), some (.int x2)]) (st' := [.int (-1)]) (w' := q2.2) (g := []) (K := []) (by decide +kernel) rfl rfl rfl rfl jk0 ?_
      cases h
      exact ev_iret (by decide +kernel) rfl rfl rfl rfl
    · replace h := jneg c4 h
      refine ev_seg (o := 10) (nL := 3) (q := 23) (xs := [(.aload_n 0, 1, 0, 0, .null), (.iload_n 1, 1, 1, 0, .null), (.iload_n 2, 1, 2, 0, .null), (.iconst (-1), 1, 0, 0, .int (-1))]) (L' := [some (.ref 93), some (.int x1), some (.int x2)]) (st' := [.int (-1), .int x2, .int x1, .ref 93]) (w' := q2.2) (g := []) (K := []) (by decide +kernel) rfl rfl rfl rfl jk0 ?_
      obtain ⟨q3, hq3, h⟩ := jbe h
      refine ev_callV (ci := 10) (a := 93) (y2 := y_Model_find) (o := 10) (idx := 358) (d2 := d_Model_find) (n := 3) (mc2 := 0) (ms2 := 0) (As := [.int x1, .int x2, .int (-1)]) (st := []) (res2 := (some (.int q3.1), jR0, q3.2)) (by decide +kernel) rfl lk_10_358 mo_Model_find mv_Model_find ⟨Nat.le_of_ble_eq_true rfl, Nat.le_of_ble_eq_true rfl⟩ rfl rfl kz_93 (by decide) rfl (Nat.le_of_ble_eq_true rfl) ⟨Nat.le_refl _, Nat.le_refl _⟩ hG (e_Model_find hG hq3) ?_
      refine ev_seg (o := 10) (nL := 3) (q := 30) (xs := [(.goto 4, 3, 0, 0, .null)]) (L' := [some (.ref 93), some (.int x1), some (.int x2)]) (st' := [.int q3.1]) (w' := q3.2) (g := []) (K := []) (by decide +kernel) rfl rfl rfl rfl jk0 ?_
      cases h
      exact ev_iret (by decide +kernel) rfl rfl rfl rfl
def f_Model_trick (x1 : Int32) (x2 : Int32) (x3 : Int32) (x4 : Int32) (w : jW) : Option (Int32 × jW) :=
  Option.bind (f_Model_isIn x1 0 1 w) fun q1 =>
  if q1.1 = 0 then
    some ((-1), q1.2)
  else
    Option.bind (f_Model_isIn x2 1 30 q1.2) fun q2 =>
    if q2.1 = 0 then
      some ((-1), q2.2)
    else
      if x3 < 0 then
        some ((-1), q2.2)
      else
        Option.bind (f_Model_isIn x4 0 2 q2.2) fun q3 =>
        if q3.1 = 0 then
          some ((-1), q3.2)
        else
          Option.bind (f_Model_find x1 x2 x3 q3.2) fun q4 =>
          if q4.1 < 0 then
            if x4 = 0 then
              some ((q4.2.1 93 23), q4.2)
            else
              if x4 = 1 then
                some ((q4.2.1 93 24), q4.2)
              else
                some ((q4.2.1 93 25), q4.2)
          else
            some ((-1), q4.2)
set_option maxRecDepth 20000 in
theorem e_Model_trick {l : Launch} {G : jG} (hG : jX G) {x1 : Int32} {x2 : Int32} {x3 : Int32} {x4 : Int32} {w : jW} {z : (Int32 × jW)} (h : f_Model_trick x1 x2 x3 x4 w = some z) : Ct l G y_Model_trick d_Model_trick 0 0 [.ref 93, .int x1, .int x2, .int x3, .int x4] jR0 w (some (.int z.1), jR0, z.2) := by
  rw [f_Model_trick] at h
  refine Ct.of (L := [some (.ref 93), some (.int x1), some (.int x2), some (.int x3), some (.int x4)]) (by decide) (Nat.le_of_ble_eq_true rfl) rfl ?_
  refine ev_seg (o := 10) (nL := 5) (q := 3) (xs := [(.iload_n 1, 1, 1, 0, .null), (.iconst 0, 1, 0, 0, .int 0), (.iconst 1, 1, 0, 0, .int 1)]) (L' := [some (.ref 93), some (.int x1), some (.int x2), some (.int x3), some (.int x4)]) (st' := [.int 1, .int 0, .int x1]) (w' := w) (g := []) (K := []) (by decide +kernel) rfl rfl rfl rfl jk0 ?_
  obtain ⟨q1, hq1, h⟩ := jbe h
  refine ev_callS (y2 := y_Model_isIn) (o := 10) (idx := 46) (d2 := d_Model_isIn) (n := 3) (mc2 := 0) (ms2 := 0) (As := [.int x1, .int 0, .int 1]) (st := []) (res2 := (some (.int q1.1), jR0, q1.2)) (by decide +kernel) rfl lk_10_46 mo_Model_isIn ms_Model_isIn ⟨Nat.le_of_ble_eq_true rfl, Nat.le_of_ble_eq_true rfl⟩ rfl rfl (Nat.le_of_ble_eq_true rfl) ⟨Nat.le_refl _, Nat.le_refl _⟩ hG (e_Model_isIn hG hq1) ?_
  refine ev_if_eq (off := 37) (tgt := 43) (by decide +kernel) (by decide) (fun c11 => ?_) (fun c11 => ?_)
  · replace h := jpos c11 h
    refine ev_seg (o := 10) (nL := 5) (q := 44) (xs := [(.iconst (-1), 1, 0, 0, .int (-1))]) (L' := [some (.ref 93), some (.int x1), some (.int x2), some (.int x3), some (.int x4)]) (st' := [.int (-1)]) (w' := q1.2) (g := []) (K := []) (by decide +kernel) rfl rfl rfl rfl jk0 ?_
    cases h
    exact ev_iret (by decide +kernel) rfl rfl rfl rfl
  · replace h := jneg c11 h
    refine ev_seg (o := 10) (nL := 5) (q := 13) (xs := [(.iload_n 2, 1, 2, 0, .null), (.iconst 1, 1, 0, 0, .int 1), (.bipush 30, 2, 0, 0, .int 30)]) (L' := [some (.ref 93), some (.int x1), some (.int x2), some (.int x3), some (.int x4)]) (st' := [.int 30, .int 1, .int x2]) (w' := q1.2) (g := []) (K := []) (by decide +kernel) rfl rfl rfl rfl jk0 ?_
    obtain ⟨q2, hq2, h⟩ := jbe h
    refine ev_callS (y2 := y_Model_isIn) (o := 10) (idx := 46) (d2 := d_Model_isIn) (n := 3) (mc2 := 0) (ms2 := 0) (As := [.int x2, .int 1, .int 30]) (st := []) (res2 := (some (.int q2.1), jR0, q2.2)) (by decide +kernel) rfl lk_10_46 mo_Model_isIn ms_Model_isIn ⟨Nat.le_of_ble_eq_true rfl, Nat.le_of_ble_eq_true rfl⟩ rfl rfl (Nat.le_of_ble_eq_true rfl) ⟨Nat.le_refl _, Nat.le_refl _⟩ hG (e_Model_isIn hG hq2) ?_
    refine ev_if_eq (off := 27) (tgt := 43) (by decide +kernel) (by decide) (fun c10 => ?_) (fun c10 => ?_)
    · replace h := jpos c10 h
      refine ev_seg (o := 10) (nL := 5) (q := 44) (xs := [(.iconst (-1), 1, 0, 0, .int (-1))]) (L' := [some (.ref 93), some (.int x1), some (.int x2), some (.int x3), some (.int x4)]) (st' := [.int (-1)]) (w' := q2.2) (g := []) (K := []) (by decide +kernel) rfl rfl rfl rfl jk0 ?_
      cases h
      exact ev_iret (by decide +kernel) rfl rfl rfl rfl
    · replace h := jneg c10 h
      refine ev_seg (o := 10) (nL := 5) (q := 20) (xs := [(.iload_n 3, 1, 3, 0, .null)]) (L' := [some (.ref 93), some (.int x1), some (.int x2), some (.int x3), some (.int x4)]) (st' := [.int x3]) (w' := q2.2) (g := []) (K := []) (by decide +kernel) rfl rfl rfl rfl jk0 ?_
      refine ev_if_lt (off := 23) (tgt := 43) (by decide +kernel) (by decide) (fun c9 => ?_) (fun c9 => ?_)
      · replace h := jpos c9 h
        refine ev_seg (o := 10) (nL := 5) (q := 44) (xs := [(.iconst (-1), 1, 0, 0, .int (-1))]) (L' := [some (.ref 93), some (.int x1), some (.int x2), some (.int x3), some (.int x4)]) (st' := [.int (-1)]) (w' := q2.2) (g := []) (K := []) (by decide +kernel) rfl rfl rfl rfl jk0 ?_
        cases h
        exact ev_iret (by decide +kernel) rfl rfl rfl rfl
      · replace h := jneg c9 h
        refine ev_seg (o := 10) (nL := 5) (q := 27) (xs := [(.iload 4, 2, 4, 0, .null), (.iconst 0, 1, 0, 0, .int 0), (.iconst 2, 1, 0, 0, .int 2)]) (L' := [some (.ref 93), some (.int x1), some (.int x2), some (.int x3), some (.int x4)]) (st' := [.int 2, .int 0, .int x4]) (w' := q2.2) (g := []) (K := []) (by decide +kernel) rfl rfl rfl rfl jk0 ?_
        obtain ⟨q3, hq3, h⟩ := jbe h
        refine ev_callS (y2 := y_Model_isIn) (o := 10) (idx := 46) (d2 := d_Model_isIn) (n := 3) (mc2 := 0) (ms2 := 0) (As := [.int x4, .int 0, .int 2]) (st := []) (res2 := (some (.int q3.1), jR0, q3.2)) (by decide +kernel) rfl lk_10_46 mo_Model_isIn ms_Model_isIn ⟨Nat.le_of_ble_eq_true rfl, Nat.le_of_ble_eq_true rfl⟩ rfl rfl (Nat.le_of_ble_eq_true rfl) ⟨Nat.le_refl _, Nat.le_refl _⟩ hG (e_Model_isIn hG hq3) ?_
        refine ev_if_eq (off := 13) (tgt := 43) (by decide +kernel) (by decide) (fun c8 => ?_) (fun c8 => ?_)
        · replace h := jpos c8 h
          refine ev_seg (o := 10) (nL := 5) (q := 44) (xs := [(.iconst (-1), 1, 0, 0, .int (-1))]) (L' := [some (.ref 93), some (.int x1), some (.int x2), some (.int x3), some (.int x4)]) (st' := [.int (-1)]) (w' := q3.2) (g := []) (K := []) (by decide +kernel) rfl rfl rfl rfl jk0 ?_
          cases h
          exact ev_iret (by decide +kernel) rfl rfl rfl rfl
        · replace h := jneg c8 h
          refine ev_seg (o := 10) (nL := 5) (q := 37) (xs := [(.aload_n 0, 1, 0, 0, .null), (.iload_n 1, 1, 1, 0, .null), (.iload_n 2, 1, 2, 0, .null), (.iload_n 3, 1, 3, 0, .null)]) (L' := [some (.ref 93), some (.int x1), some (.int x2), some (.int x3), some (.int x4)]) (st' := [.int x3, .int x2, .int x1, .ref 93]) (w' := q3.2) (g := []) (K := []) (by decide +kernel) rfl rfl rfl rfl jk0 ?_
          obtain ⟨q4, hq4, h⟩ := jbe h
          refine ev_callV (ci := 10) (a := 93) (y2 := y_Model_find) (o := 10) (idx := 358) (d2 := d_Model_find) (n := 3) (mc2 := 0) (ms2 := 0) (As := [.int x1, .int x2, .int x3]) (st := []) (res2 := (some (.int q4.1), jR0, q4.2)) (by decide +kernel) rfl lk_10_358 mo_Model_find mv_Model_find ⟨Nat.le_of_ble_eq_true rfl, Nat.le_of_ble_eq_true rfl⟩ rfl rfl kz_93 (by decide) rfl (Nat.le_of_ble_eq_true rfl) ⟨Nat.le_refl _, Nat.le_refl _⟩ hG (e_Model_find hG hq4) ?_
          refine ev_if_lt (off := 5) (tgt := 45) (by decide +kernel) (by decide) (fun c7 => ?_) (fun c7 => ?_)
          · replace h := jpos c7 h
            refine ev_seg (o := 10) (nL := 5) (q := 47) (xs := [(.iload 4, 2, 4, 0, .null)]) (L' := [some (.ref 93), some (.int x1), some (.int x2), some (.int x3), some (.int x4)]) (st' := [.int x4]) (w' := q4.2) (g := []) (K := []) (by decide +kernel) rfl rfl rfl rfl jk0 ?_
            refine ev_if_ne (off := 10) (tgt := 57) (by decide +kernel) (by decide) (fun c6 => ?_) (fun c6 => ?_)
            · replace h := jneg c6 h
              refine ev_seg (o := 10) (nL := 5) (q := 60) (xs := [(.iload 4, 2, 4, 0, .null), (.iconst 1, 1, 0, 0, .int 1)]) (L' := [some (.ref 93), some (.int x1), some (.int x2), some (.int x3), some (.int x4)]) (st' := [.int 1, .int x4]) (w' := q4.2) (g := []) (K := []) (by decide +kernel) rfl rfl rfl rfl jk0 ?_
              refine ev_icmp_ne (off := 10) (tgt := 70) (by decide +kernel) (by decide) (fun c5 => ?_) (fun c5 => ?_)
              · replace h := jneg c5 h
                refine ev_seg (o := 10) (nL := 5) (q := 74) (xs := [(.aload_n 0, 1, 0, 0, .null), (.getfield 355, 3, 10, 25, .int 0)]) (L' := [some (.ref 93), some (.int x1), some (.int x2), some (.int x3), some (.int x4)]) (st' := [.int (q4.2.1 93 25)]) (w' := q4.2) (g := []) (K := [(93, 10)]) (by decide +kernel) rfl rfl rfl rfl (jk1 kz_93 jk0) ?_
                cases h
                exact ev_iret (by decide +kernel) rfl rfl rfl rfl
              · replace h := jpos c5 h
                refine ev_seg (o := 10) (nL := 5) (q := 74) (xs := [(.aload_n 0, 1, 0, 0, .null), (.getfield 352, 3, 10, 24, .int 0), (.goto 7, 3, 0, 0, .null)]) (L' := [some (.ref 93), some (.int x1), some (.int x2), some (.int x3), some (.int x4)]) (st' := [.int (q4.2.1 93 24)]) (w' := q4.2) (g := []) (K := [(93, 10)]) (by decide +kernel) rfl rfl rfl rfl (jk1 kz_93 jk0) ?_
                cases h
                exact ev_iret (by decide +kernel) rfl rfl rfl rfl
            · replace h := jpos c6 h
              refine ev_seg (o := 10) (nL := 5) (q := 74) (xs := [(.aload_n 0, 1, 0, 0, .null), (.getfield 349, 3, 10, 23, .int 0), (.goto 20, 3, 0, 0, .null)]) (L' := [some (.ref 93), some (.int x1), some (.int x2), some (.int x3), some (.int x4)]) (st' := [.int (q4.2.1 93 23)]) (w' := q4.2) (g := []) (K := [(93, 10)]) (by decide +kernel) rfl rfl rfl rfl (jk1 kz_93 jk0) ?_
              cases h
              exact ev_iret (by decide +kernel) rfl rfl rfl rfl
          · replace h := jneg c7 h
            refine ev_seg (o := 10) (nL := 5) (q := 44) (xs := [(.iconst (-1), 1, 0, 0, .int (-1))]) (L' := [some (.ref 93), some (.int x1), some (.int x2), some (.int x3), some (.int x4)]) (st' := [.int (-1)]) (w' := q4.2) (g := []) (K := []) (by decide +kernel) rfl rfl rfl rfl jk0 ?_
            cases h
            exact ev_iret (by decide +kernel) rfl rfl rfl rfl
def f_Model_image (w : jW) : Option (Int32 × jW) :=
  Option.bind (f_Model_copy 94 95 w) fun q1 =>
  if jal [jin 0 21000] = true then
  some ((q1.1 94 (Int32.toNatClampNeg 0)), q1)
  else none
set_option maxRecDepth 20000 in
theorem e_Model_image {l : Launch} {G : jG} (hG : jX G) {w : jW} {z : (Int32 × jW)} (h : f_Model_image w = some z) : Ct l G y_Model_image d_Model_image 0 0 [.ref 93] jR0 w (some (.int z.1), jR0, z.2) := by
  rw [f_Model_image] at h
  refine Ct.of (L := [some (.ref 93)]) (by decide) (Nat.le_of_ble_eq_true rfl) rfl ?_
  refine ev_seg (o := 10) (nL := 1) (q := 8) (xs := [(.aload_n 0, 1, 0, 0, .null), (.getfield 7, 3, 10, 0, .ref 20), (.aload_n 0, 1, 0, 0, .null), (.getfield 13, 3, 10, 1, .ref 20)]) (L' := [some (.ref 93)]) (st' := [.ref 95, .ref 94]) (w' := w) (g := []) (K := [(95, 20), (93, 10), (94, 20), (93, 10)]) (by decide +kernel) rfl rfl rfl rfl (jk1 kz_95 (jk1 kz_93 (jk1 kz_94 (jk1 kz_93 jk0)))) ?_
  obtain ⟨q1, hq1, h⟩ := jbe h
  refine ev_callS (y2 := y_Model_copy) (o := 10) (idx := 42) (d2 := d_Model_copy) (n := 2) (mc2 := 0) (ms2 := 0) (As := [.ref 94, .ref 95]) (st := []) (res2 := (none, jR0, q1)) (by decide +kernel) rfl lk_10_42 mo_Model_copy ms_Model_copy ⟨Nat.le_of_ble_eq_true rfl, Nat.le_of_ble_eq_true rfl⟩ rfl rfl (Nat.le_of_ble_eq_true rfl) ⟨Nat.le_refl _, Nat.le_refl _⟩ hG (e_Model_copy hG kz_94 kz_95 hq1) ?_
  obtain ⟨hg2, h⟩ := jgd h
  refine ev_seg (o := 10) (nL := 1) (q := 17) (xs := [(.aload_n 0, 1, 0, 0, .null), (.getfield 7, 3, 10, 0, .ref 20), (.iconst 0, 1, 0, 0, .int 0), (.iaload, 1, 0, 0, .null)]) (L' := [some (.ref 93)]) (st' := [.int (q1.1 94 (Int32.toNatClampNeg 0))]) (w' := q1) (g := [jin 0 21000]) (K := [(94, 20), (94, 20), (93, 10)]) (by decide +kernel) rfl rfl rfl hg2 (jk1 kz_94 (jk1 kz_94 (jk1 kz_93 jk0))) ?_
  cases h
  exact ev_iret (by decide +kernel) rfl rfl rfl rfl
def f_Model_back (w : jW) : Option (Int32 × jW) :=
  Option.bind (f_Model_copy 95 94 w) fun q1 =>
  if jal [jin 0 21000] = true then
  some ((q1.1 94 (Int32.toNatClampNeg 0)), q1)
  else none
set_option maxRecDepth 20000 in
theorem e_Model_back {l : Launch} {G : jG} (hG : jX G) {w : jW} {z : (Int32 × jW)} (h : f_Model_back w = some z) : Ct l G y_Model_back d_Model_back 0 0 [.ref 93] jR0 w (some (.int z.1), jR0, z.2) := by
  rw [f_Model_back] at h
  refine Ct.of (L := [some (.ref 93)]) (by decide) (Nat.le_of_ble_eq_true rfl) rfl ?_
  refine ev_seg (o := 10) (nL := 1) (q := 8) (xs := [(.aload_n 0, 1, 0, 0, .null), (.getfield 13, 3, 10, 1, .ref 20), (.aload_n 0, 1, 0, 0, .null), (.getfield 7, 3, 10, 0, .ref 20)]) (L' := [some (.ref 93)]) (st' := [.ref 94, .ref 95]) (w' := w) (g := []) (K := [(94, 20), (93, 10), (95, 20), (93, 10)]) (by decide +kernel) rfl rfl rfl rfl (jk1 kz_94 (jk1 kz_93 (jk1 kz_95 (jk1 kz_93 jk0)))) ?_
  obtain ⟨q1, hq1, h⟩ := jbe h
  refine ev_callS (y2 := y_Model_copy) (o := 10) (idx := 42) (d2 := d_Model_copy) (n := 2) (mc2 := 0) (ms2 := 0) (As := [.ref 95, .ref 94]) (st := []) (res2 := (none, jR0, q1)) (by decide +kernel) rfl lk_10_42 mo_Model_copy ms_Model_copy ⟨Nat.le_of_ble_eq_true rfl, Nat.le_of_ble_eq_true rfl⟩ rfl rfl (Nat.le_of_ble_eq_true rfl) ⟨Nat.le_refl _, Nat.le_refl _⟩ hG (e_Model_copy hG kz_95 kz_94 hq1) ?_
  obtain ⟨hg2, h⟩ := jgd h
  refine ev_seg (o := 10) (nL := 1) (q := 17) (xs := [(.aload_n 0, 1, 0, 0, .null), (.getfield 7, 3, 10, 0, .ref 20), (.iconst 0, 1, 0, 0, .int 0), (.iaload, 1, 0, 0, .null)]) (L' := [some (.ref 93)]) (st' := [.int (q1.1 94 (Int32.toNatClampNeg 0))]) (w' := q1) (g := [jin 0 21000]) (K := [(94, 20), (94, 20), (93, 10)]) (by decide +kernel) rfl rfl rfl hg2 (jk1 kz_94 (jk1 kz_94 (jk1 kz_93 jk0))) ?_
  cases h
  exact ev_iret (by decide +kernel) rfl rfl rfl rfl
def f_Model_about (x1 : Int32) (w : jW) : Option (Int32 × jW) :=
  if jal [jin 1 21000] = true then
  Option.bind (f_Model_isIn x1 20 (19 + (w.1 94 (Int32.toNatClampNeg 1))) w) fun q2 =>
  if q2.1 = 0 then
    if x1 = 12 then
      some ((q2.2.1 93 4), q2.2)
    else
    if x1 = 13 then
      if jal [jin 12 21000] = true then
      some ((q2.2.1 94 (Int32.toNatClampNeg 12)), q2.2)
      else none
    else
    if x1 = 14 then
      if jal [jin 13 21000] = true then
      some ((q2.2.1 94 (Int32.toNatClampNeg 13)), q2.2)
      else none
    else
    if x1 = 15 then
      if jal [jin 16 21000] = true then
      some ((q2.2.1 94 (Int32.toNatClampNeg 16)), q2.2)
      else none
    else
      Option.bind (f_Model_isIn x1 0 11 q2.2) fun q3 =>
      if q3.1 = 0 then
        some ((-1), q3.2)
      else
        if jal [jin x1 21000] = true then
        some ((q3.2.1 94 (Int32.toNatClampNeg x1)), q3.2)
        else none
  else
    Option.bind (f_Model_siteAt (x1 - 20) 4 q2.2) fun q13 =>
    some (q13.1, q13.2)
  else none
set_option maxRecDepth 20000 in
theorem e_Model_about {l : Launch} {G : jG} (hG : jX G) {x1 : Int32} {w : jW} {z : (Int32 × jW)} (h : f_Model_about x1 w = some z) : Ct l G y_Model_about d_Model_about 0 0 [.ref 93, .int x1] jR0 w (some (.int z.1), jR0, z.2) := by
  rw [f_Model_about] at h
  refine Ct.of (L := [some (.ref 93), some (.int x1)]) (by decide) (Nat.le_of_ble_eq_true rfl) rfl ?_
  obtain ⟨hg1, h⟩ := jgd h
  refine ev_seg (o := 10) (nL := 2) (q := 12) (xs := [(.iload_n 1, 1, 1, 0, .null), (.bipush 20, 2, 0, 0, .int 20), (.bipush 19, 2, 0, 0, .int 19), (.aload_n 0, 1, 0, 0, .null), (.getfield 7, 3, 10, 0, .ref 20), (.iconst 1, 1, 0, 0, .int 1), (.iaload, 1, 0, 0, .null), (.iadd, 1, 0, 0, .null)]) (L' := [some (.ref 93), some (.int x1)]) (st' := [.int (19 + (w.1 94 (Int32.toNatClampNeg 1))), .int 20, .int x1]) (w' := w) (g := [jin 1 21000]) (K := [(94, 20), (94, 20), (93, 10)]) (by decide +kernel) rfl rfl rfl hg1 (jk1 kz_94 (jk1 kz_94 (jk1 kz_93 jk0))) ?_
  obtain ⟨q2, hq2, h⟩ := jbe h
  refine ev_callS (y2 := y_Model_isIn) (o := 10) (idx := 46) (d2 := d_Model_isIn) (n := 3) (mc2 := 0) (ms2 := 0) (As := [.int x1, .int 20, .int (19 + (w.1 94 (Int32.toNatClampNeg 1)))]) (st := []) (res2 := (some (.int q2.1), jR0, q2.2)) (by decide +kernel) rfl lk_10_46 mo_Model_isIn ms_Model_isIn ⟨Nat.le_of_ble_eq_true rfl, Nat.le_of_ble_eq_true rfl⟩ rfl rfl (Nat.le_of_ble_eq_true rfl) ⟨Nat.le_refl _, Nat.le_refl _⟩ hG (e_Model_isIn hG hq2) ?_
  refine ev_if_eq (off := 13) (tgt := 28) (by decide +kernel) (by decide) (fun c14 => ?_) (fun c14 => ?_)
  · replace h := jpos c14 h
    refine ev_seg (o := 10) (nL := 2) (q := 29) (xs := [(.iload_n 1, 1, 1, 0, .null)]) (L' := [some (.ref 93), some (.int x1)]) (st' := [.int x1]) (w' := q2.2) (g := []) (K := []) (by decide +kernel) rfl rfl rfl rfl jk0 ?_
    by_cases c6 : x1 = 12
    · replace h := jpos c6 h
      refine ev_tableIn (dflt := 60) (lo := 12) (hi := 15) (offs := #[31, 36, 44, 52]) (len := 31) (off := 31) (tgt := 60) (by decide +kernel) (by rw [c6]; decide) (by rw [c6]; decide) (by rw [c6]; decide) (by decide) ?_
      refine ev_seg (o := 10) (nL := 2) (q := 64) (xs := [(.aload_n 0, 1, 0, 0, .null), (.getfield 98, 3, 10, 4, .int 0)]) (L' := [some (.ref 93), some (.int x1)]) (st' := [.int (q2.2.1 93 4)]) (w' := q2.2) (g := []) (K := [(93, 10)]) (by decide +kernel) rfl rfl rfl rfl (jk1 kz_93 jk0) ?_
      cases h
      exact ev_iret (by decide +kernel) rfl rfl rfl rfl
    · replace h := jneg c6 h
      by_cases c7 : x1 = 13
      · replace h := jpos c7 h
        refine ev_tableIn (dflt := 60) (lo := 12) (hi := 15) (offs := #[31, 36, 44, 52]) (len := 31) (off := 36) (tgt := 65) (by decide +kernel) (by rw [c7]; decide) (by rw [c7]; decide) (by rw [c7]; decide) (by decide) ?_
        obtain ⟨hg8, h⟩ := jgd h
        refine ev_seg (o := 10) (nL := 2) (q := 72) (xs := [(.aload_n 0, 1, 0, 0, .null), (.getfield 7, 3, 10, 0, .ref 20), (.bipush 12, 2, 0, 0, .int 12), (.iaload, 1, 0, 0, .null)]) (L' := [some (.ref 93), some (.int x1)]) (st' := [.int (q2.2.1 94 (Int32.toNatClampNeg 12))]) (w' := q2.2) (g := [jin 12 21000]) (K := [(94, 20), (94, 20), (93, 10)]) (by decide +kernel) rfl rfl rfl hg8 (jk1 kz_94 (jk1 kz_94 (jk1 kz_93 jk0))) ?_
        cases h
        exact ev_iret (by decide +kernel) rfl rfl rfl rfl
      · replace h := jneg c7 h
        by_cases c9 : x1 = 14
        · replace h := jpos c9 h
          refine ev_tableIn (dflt := 60) (lo := 12) (hi := 15) (offs := #[31, 36, 44, 52]) (len := 31) (off := 44) (tgt := 73) (by decide +kernel) (by rw [c9]; decide) (by rw [c9]; decide) (by rw [c9]; decide) (by decide) ?_
          obtain ⟨hg10, h⟩ := jgd h
          refine ev_seg (o := 10) (nL := 2) (q := 80) (xs := [(.aload_n 0, 1, 0, 0, .null), (.getfield 7, 3, 10, 0, .ref 20), (.bipush 13, 2, 0, 0, .int 13), (.iaload, 1, 0, 0, .null)]) (L' := [some (.ref 93), some (.int x1)]) (st' := [.int (q2.2.1 94 (Int32.toNatClampNeg 13))]) (w' := q2.2) (g := [jin 13 21000]) (K := [(94, 20), (94, 20), (93, 10)]) (by decide +kernel) rfl rfl rfl hg10 (jk1 kz_94 (jk1 kz_94 (jk1 kz_93 jk0))) ?_
          cases h
          exact ev_iret (by decide +kernel) rfl rfl rfl rfl
        · replace h := jneg c9 h
          by_cases c11 : x1 = 15
          · replace h := jpos c11 h
            refine ev_tableIn (dflt := 60) (lo := 12) (hi := 15) (offs := #[31, 36, 44, 52]) (len := 31) (off := 52) (tgt := 81) (by decide +kernel) (by rw [c11]; decide) (by rw [c11]; decide) (by rw [c11]; decide) (by decide) ?_
            obtain ⟨hg12, h⟩ := jgd h
            refine ev_seg (o := 10) (nL := 2) (q := 88) (xs := [(.aload_n 0, 1, 0, 0, .null), (.getfield 7, 3, 10, 0, .ref 20), (.bipush 16, 2, 0, 0, .int 16), (.iaload, 1, 0, 0, .null)]) (L' := [some (.ref 93), some (.int x1)]) (st' := [.int (q2.2.1 94 (Int32.toNatClampNeg 16))]) (w' := q2.2) (g := [jin 16 21000]) (K := [(94, 20), (94, 20), (93, 10)]) (by decide +kernel) rfl rfl rfl hg12 (jk1 kz_94 (jk1 kz_94 (jk1 kz_93 jk0))) ?_
            cases h
            exact ev_iret (by decide +kernel) rfl rfl rfl rfl
          · replace h := jneg c11 h
            have ec6 := lv_neT (a := 12) c6 rfl
            have ec7 := lv_neT (a := 13) c7 rfl
            have ec9 := lv_neT (a := 14) c9 rfl
            have ec11 := lv_neT (a := 15) c11 rfl
            refine ev_tableOut (dflt := 60) (lo := 12) (hi := 15) (offs := #[31, 36, 44, 52]) (len := 31) (tgt := 89) (by decide +kernel) (by omega) (by decide) ?_
            refine ev_seg (o := 10) (nL := 2) (q := 93) (xs := [(.iload_n 1, 1, 1, 0, .null), (.iconst 0, 1, 0, 0, .int 0), (.bipush 11, 2, 0, 0, .int 11)]) (L' := [some (.ref 93), some (.int x1)]) (st' := [.int 11, .int 0, .int x1]) (w' := q2.2) (g := []) (K := []) (by decide +kernel) rfl rfl rfl rfl jk0 ?_
            obtain ⟨q3, hq3, h⟩ := jbe h
            refine ev_callS (y2 := y_Model_isIn) (o := 10) (idx := 46) (d2 := d_Model_isIn) (n := 3) (mc2 := 0) (ms2 := 0) (As := [.int x1, .int 0, .int 11]) (st := []) (res2 := (some (.int q3.1), jR0, q3.2)) (by decide +kernel) rfl lk_10_46 mo_Model_isIn ms_Model_isIn ⟨Nat.le_of_ble_eq_true rfl, Nat.le_of_ble_eq_true rfl⟩ rfl rfl (Nat.le_of_ble_eq_true rfl) ⟨Nat.le_refl _, Nat.le_refl _⟩ hG (e_Model_isIn hG hq3) ?_
            refine ev_if_eq (off := 12) (tgt := 108) (by decide +kernel) (by decide) (fun c5 => ?_) (fun c5 => ?_)
            · replace h := jpos c5 h
              refine ev_seg (o := 10) (nL := 2) (q := 109) (xs := [(.iconst (-1), 1, 0, 0, .int (-1))]) (L' := [some (.ref 93), some (.int x1)]) (st' := [.int (-1)]) (w' := q3.2) (g := []) (K := []) (by decide +kernel) rfl rfl rfl rfl jk0 ?_
              cases h
              exact ev_iret (by decide +kernel) rfl rfl rfl rfl
            · replace h := jneg c5 h
              obtain ⟨hg4, h⟩ := jgd h
              refine ev_seg (o := 10) (nL := 2) (q := 109) (xs := [(.aload_n 0, 1, 0, 0, .null), (.getfield 7, 3, 10, 0, .ref 20), (.iload_n 1, 1, 1, 0, .null), (.iaload, 1, 0, 0, .null), (.goto 4, 3, 0, 0, .null)]) (L' := [some (.ref 93), some (.int x1)]) (st' := [.int (q3.2.1 94 (Int32.toNatClampNeg x1))]) (w' := q3.2) (g := [jin x1 21000]) (K := [(94, 20), (94, 20), (93, 10)]) (by decide +kernel) rfl rfl rfl hg4 (jk1 kz_94 (jk1 kz_94 (jk1 kz_93 jk0))) ?_
              cases h
              exact ev_iret (by decide +kernel) rfl rfl rfl rfl
  · replace h := jneg c14 h
    refine ev_seg (o := 10) (nL := 2) (q := 24) (xs := [(.aload_n 0, 1, 0, 0, .null), (.iload_n 1, 1, 1, 0, .null), (.bipush 20, 2, 0, 0, .int 20), (.isub, 1, 0, 0, .null), (.iconst 4, 1, 0, 0, .int 4)]) (L' := [some (.ref 93), some (.int x1)]) (st' := [.int 4, .int (x1 - 20), .ref 93]) (w' := q2.2) (g := []) (K := []) (by decide +kernel) rfl rfl rfl rfl jk0 ?_
    obtain ⟨q13, hq13, h⟩ := jbe h
    refine ev_callV (ci := 10) (a := 93) (y2 := y_Model_siteAt) (o := 10) (idx := 54) (d2 := d_Model_siteAt) (n := 2) (mc2 := 0) (ms2 := 0) (As := [.int (x1 - 20), .int 4]) (st := []) (res2 := (some (.int q13.1), jR0, q13.2)) (by decide +kernel) rfl lk_10_54 mo_Model_siteAt mv_Model_siteAt ⟨Nat.le_of_ble_eq_true rfl, Nat.le_of_ble_eq_true rfl⟩ rfl rfl kz_93 (by decide) rfl (Nat.le_of_ble_eq_true rfl) ⟨Nat.le_refl _, Nat.le_refl _⟩ hG (e_Model_siteAt hG hq13) ?_
    cases h
    exact ev_iret (by decide +kernel) rfl rfl rfl rfl

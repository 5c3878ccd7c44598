def f_Model_told (x1 : Int32) (x2 : Int32) (x3 : Int32) (w : jW) : Option (Int32 × jW) :=
  Option.bind (f_Model_isThing x1 w) fun q1 =>
  if q1.1 = 0 then
    some ((-1), q1.2)
  else
    Option.bind (f_Model_isDay x2 q1.2) fun q2 =>
    if q2.1 = 0 then
      some ((-1), q2.2)
    else
      Option.bind (f_Model_isDay x3 q2.2) fun q3 =>
      if q3.1 = 0 then
        some ((-1), q3.2)
      else
        Option.bind (f_Model_toldOf x1 x2 x3 q3.2) fun q4 =>
        some (q4.1, q4.2)
set_option maxRecDepth 20000 in
theorem e_Model_told {l : Launch} {G : jG} (hG : jX G) {x1 : Int32} {x2 : Int32} {x3 : Int32} {w : jW} {z : (Int32 × jW)} (h : f_Model_told x1 x2 x3 w = some z) : Ct l G y_Model_told d_Model_told 0 0 [.ref 93, .int x1, .int x2, .int x3] jR0 w (some (.int z.1), jR0, z.2) := by
  rw [f_Model_told] at h
  refine Ct.of (L := [some (.ref 93), some (.int x1), some (.int x2), some (.int x3)]) (by decide) (Nat.le_of_ble_eq_true rfl) rfl ?_
  refine ev_seg (o := 10) (nL := 4) (q := 2) (xs := [(.aload_n 0, 1, 0, 0, .null), (.iload_n 1, 1, 1, 0, .null)]) (L' := [some (.ref 93), some (.int x1), some (.int x2), some (.int x3)]) (st' := [.int x1, .ref 93]) (w' := w) (g := []) (K := []) (by decide +kernel) rfl rfl rfl rfl jk0 ?_
  obtain ⟨q1, hq1, h⟩ := jbe h
  refine ev_callV (ci := 10) (a := 93) (y2 := y_Model_isThing) (o := 10) (idx := 72) (d2 := d_Model_isThing) (n := 1) (mc2 := 0) (ms2 := 0) (As := [.int x1]) (st := []) (res2 := (some (.int q1.1), jR0, q1.2)) (by decide +kernel) rfl lk_10_72 mo_Model_isThing mv_Model_isThing ⟨Nat.le_of_ble_eq_true rfl, Nat.le_of_ble_eq_true rfl⟩ rfl rfl kz_93 (by decide) rfl (Nat.le_of_ble_eq_true rfl) ⟨Nat.le_refl _, Nat.le_refl _⟩ hG (e_Model_isThing hG hq1) ?_
  refine ev_if_eq (off := 27) (tgt := 32) (by decide +kernel) (by decide) (fun c7 => ?_) (fun c7 => ?_)
  · replace h := jpos c7 h
    refine ev_seg (o := 10) (nL := 4) (q := 33) (xs := [(.iconst (-1), 1, 0, 0, .int (-1))]) (L' := [some (.ref 93), some (.int x1), some (.int x2), some (.int x3)]) (st' := [.int (-1)]) (w' := q1.2) (g := []) (K := []) (by decide +kernel) rfl rfl rfl rfl jk0 ?_
    cases h
    exact ev_iret (by decide +kernel) rfl rfl rfl rfl
  · replace h := jneg c7 h
    refine ev_seg (o := 10) (nL := 4) (q := 9) (xs := [(.iload_n 2, 1, 2, 0, .null)]) (L' := [some (.ref 93), some (.int x1), some (.int x2), some (.int x3)]) (st' := [.int x2]) (w' := q1.2) (g := []) (K := []) (by decide +kernel) rfl rfl rfl rfl jk0 ?_
    obtain ⟨q2, hq2, h⟩ := jbe h
    refine ev_callS (y2 := y_Model_isDay) (o := 10) (idx := 75) (d2 := d_Model_isDay) (n := 1) (mc2 := 0) (ms2 := 0) (As := [.int x2]) (st := []) (res2 := (some (.int q2.1), jR0, q2.2)) (by decide +kernel) rfl lk_10_75 mo_Model_isDay ms_Model_isDay ⟨Nat.le_of_ble_eq_true rfl, Nat.le_of_ble_eq_true rfl⟩ rfl rfl (Nat.le_of_ble_eq_true rfl) ⟨Nat.le_refl _, Nat.le_refl _⟩ hG (e_Model_isDay hG hq2) ?_
    refine ev_if_eq (off := 20) (tgt := 32) (by decide +kernel) (by decide) (fun c6 => ?_) (fun c6 => ?_)
    · replace h := jpos c6 h
      refine ev_seg (o := 10) (nL := 4) (q := 33) (xs := [(.iconst (-1), 1, 0, 0, .int (-1))]) (L' := [some (.ref 93), some (.int x1), some (.int x2), some (.int x3)]) (st' := [.int (-1)]) (w' := q2.2) (g := []) (K := []) (by decide +kernel) rfl rfl rfl rfl jk0 ?_
      cases h
      exact ev_iret (by decide +kernel) rfl rfl rfl rfl
    · replace h := jneg c6 h
      refine ev_seg (o := 10) (nL := 4) (q := 16) (xs := [(.iload_n 3, 1, 3, 0, .null)]) (L' := [some (.ref 93), some (.int x1), some (.int x2), some (.int x3)]) (st' := [.int x3]) (w' := q2.2) (g := []) (K := []) (by decide +kernel) rfl rfl rfl rfl jk0 ?_
      obtain ⟨q3, hq3, h⟩ := jbe h
      refine ev_callS (y2 := y_Model_isDay) (o := 10) (idx := 75) (d2 := d_Model_isDay) (n := 1) (mc2 := 0) (ms2 := 0) (As := [.int x3]) (st := []) (res2 := (some (.int q3.1), jR0, q3.2)) (by decide +kernel) rfl lk_10_75 mo_Model_isDay ms_Model_isDay ⟨Nat.le_of_ble_eq_true rfl, Nat.le_of_ble_eq_true rfl⟩ rfl rfl (Nat.le_of_ble_eq_true rfl) ⟨Nat.le_refl _, Nat.le_refl _⟩ hG (e_Model_isDay hG hq3) ?_
      refine ev_if_eq (off := 13) (tgt := 32) (by decide +kernel) (by decide) (fun c5 => ?_) (fun c5 => ?_)
      · replace h := jpos c5 h
        refine ev_seg (o := 10) (nL := 4) (q := 33) (xs := [(.iconst (-1), 1, 0, 0, .int (-1))]) (L' := [some (.ref 93), some (.int x1), some (.int x2), some (.int x3)]) (st' := [.int (-1)]) (w' := q3.2) (g := []) (K := []) (by decide +kernel) rfl rfl rfl rfl jk0 ?_
        cases h
        exact ev_iret (by decide +kernel) rfl rfl rfl rfl
      · replace h := jneg c5 h
        refine ev_seg (o := 10) (nL := 4) (q := 26) (xs := [(.aload_n 0, 1, 0, 0, .null), (.iload_n 1, 1, 1, 0, .null), (.iload_n 2, 1, 2, 0, .null), (.iload_n 3, 1, 3, 0, .null)]) (L' := [some (.ref 93), some (.int x1), some (.int x2), some (.int x3)]) (st' := [.int x3, .int x2, .int x1, .ref 93]) (w' := q3.2) (g := []) (K := []) (by decide +kernel) rfl rfl rfl rfl jk0 ?_
        obtain ⟨q4, hq4, h⟩ := jbe h
        refine ev_callV (ci := 10) (a := 93) (y2 := y_Model_toldOf) (o := 10) (idx := 268) (d2 := d_Model_toldOf) (n := 3) (mc2 := 0) (ms2 := 0) (As := [.int x1, .int x2, .int x3]) (st := []) (res2 := (some (.int q4.1), jR0, q4.2)) (by decide +kernel) rfl lk_10_268 mo_Model_toldOf mv_Model_toldOf ⟨Nat.le_of_ble_eq_true rfl, Nat.le_of_ble_eq_true rfl⟩ rfl rfl kz_93 (by decide) rfl (Nat.le_of_ble_eq_true rfl) ⟨Nat.le_refl _, Nat.le_refl _⟩ hG (e_Model_toldOf hG hq4) ?_
        refine ev_seg (o := 10) (nL := 4) (q := 33) (xs := [(.goto 4, 3, 0, 0, .null)]) (L' := [some (.ref 93), some (.int x1), some (.int x2), some (.int x3)]) (st' := [.int q4.1]) (w' := q4.2) (g := []) (K := []) (by decide +kernel) rfl rfl rfl rfl jk0 ?_
        cases h
        exact ev_iret (by decide +kernel) rfl rfl rfl rfl
def f_Model_toldThere_h6 : Nat → Int32 → Int32 → Int32 → Int32 → Int32 → Int32 → jW → Option (Int32 × jW)
  | 0, _, _, _, _, _, _, _ => none
  | n + 1, x1, x2, x3, x4, x5, x6, w =>
  if jal [jin 3 21000] = true then
  if x6 < (w.1 94 (Int32.toNatClampNeg 3)) then
    Option.bind (f_Model_thingAt x6 0 w) fun q2 =>
    if q2.1 = x2 then
      Option.bind (f_Model_toldOf x6 x3 x4 q2.2) fun q3 =>
      if q3.1 = x1 then
        (f_Model_toldThere_h6 n) x1 x2 x3 x4 (x5 + 1) (x6 + 1) q3.2
      else
        (f_Model_toldThere_h6 n) x1 x2 x3 x4 (x5 + 0) (x6 + 1) q3.2
    else
      (f_Model_toldThere_h6 n) x1 x2 x3 x4 (x5 + 0) (x6 + 1) q2.2
  else
    some (x5, w)
  else none
set_option maxRecDepth 20000 in
theorem t_Model_toldThere_h6 {l : Launch} {G : jG} (hG : jX G) : ∀ (n : Nat) (x1 : Int32) (x2 : Int32) (x3 : Int32) (x4 : Int32) (x5 : Int32) (x6 : Int32) (w : jW) (z : (Int32 × jW)), f_Model_toldThere_h6 n x1 x2 x3 x4 x5 x6 w = some z → Ev l G (jrm d_Model_toldThere 0 0) y_Model_toldThere (some (.int z.1), jR0, z.2) 0 0 0 0 6 [some (.ref 93), some (.int x1), some (.int x2), some (.int x3), some (.int x4), some (.int x5), some (.int x6)] [] jR0 w := by
  intro n
  induction n with
  | zero => intro x1 x2 x3 x4 x5 x6 w z h; simp only [f_Model_toldThere_h6] at h; cases h
  | succ n ih =>
    intro x1 x2 x3 x4 x5 x6 w z h
    rw [f_Model_toldThere_h6] at h
    obtain ⟨hg1, h⟩ := jgd h
    refine ev_seg (o := 10) (nL := 7) (q := 14) (xs := [(.iload 6, 2, 6, 0, .null), (.aload_n 0, 1, 0, 0, .null), (.getfield 7, 3, 10, 0, .ref 20), (.iconst 3, 1, 0, 0, .int 3), (.iaload, 1, 0, 0, .null)]) (L' := [some (.ref 93), some (.int x1), some (.int x2), some (.int x3), some (.int x4), some (.int x5), some (.int x6)]) (st' := [.int (w.1 94 (Int32.toNatClampNeg 3)), .int x6]) (w' := w) (g := [jin 3 21000]) (K := [(94, 20), (94, 20), (93, 10)]) (by decide +kernel) rfl rfl rfl hg1 (jk1 kz_94 (jk1 kz_94 (jk1 kz_93 jk0))) ?_
    refine ev_icmp_ge (off := 43) (tgt := 57) (by decide +kernel) (by decide) (fun c6 => ?_) (fun c6 => ?_)
    · replace h := jneg c6 h
      refine ev_seg (o := 10) (nL := 7) (q := 59) (xs := [(.iload 5, 2, 5, 0, .null)]) (L' := [some (.ref 93), some (.int x1), some (.int x2), some (.int x3), some (.int x4), some (.int x5), some (.int x6)]) (st' := [.int x5]) (w' := w) (g := []) (K := []) (by decide +kernel) rfl rfl rfl rfl jk0 ?_
      cases h
      exact ev_iret (by decide +kernel) rfl rfl rfl rfl
    · replace h := jpos c6 h
      refine ev_seg (o := 10) (nL := 7) (q := 23) (xs := [(.iload 5, 2, 5, 0, .null), (.aload_n 0, 1, 0, 0, .null), (.iload 6, 2, 6, 0, .null), (.iconst 0, 1, 0, 0, .int 0)]) (L' := [some (.ref 93), some (.int x1), some (.int x2), some (.int x3), some (.int x4), some (.int x5), some (.int x6)]) (st' := [.int 0, .int x6, .ref 93, .int x5]) (w' := w) (g := []) (K := []) (by decide +kernel) rfl rfl rfl rfl jk0 ?_
      obtain ⟨q2, hq2, h⟩ := jbe h
      refine ev_callV (ci := 10) (a := 93) (y2 := y_Model_thingAt) (o := 10) (idx := 66) (d2 := d_Model_thingAt) (n := 2) (mc2 := 0) (ms2 := 0) (As := [.int x6, .int 0]) (st := [.int x5]) (res2 := (some (.int q2.1), jR0, q2.2)) (by decide +kernel) rfl lk_10_66 mo_Model_thingAt mv_Model_thingAt ⟨Nat.le_of_ble_eq_true rfl, Nat.le_of_ble_eq_true rfl⟩ rfl rfl kz_93 (by decide) rfl (Nat.le_of_ble_eq_true rfl) ⟨Nat.le_refl _, Nat.le_refl _⟩ hG (e_Model_thingAt hG hq2) ?_
      refine ev_seg (o := 10) (nL := 7) (q := 27) (xs := [(.iload_n 2, 1, 2, 0, .null)]) (L' := [some (.ref 93), some (.int x1), some (.int x2), some (.int x3), some (.int x4), some (.int x5), some (.int x6)]) (st' := [.int x2, .int q2.1, .int x5]) (w' := q2.2) (g := []) (K := []) (by decide +kernel) rfl rfl rfl rfl jk0 ?_
      refine ev_icmp_ne (off := 20) (tgt := 47) (by decide +kernel) (by decide) (fun c5 => ?_) (fun c5 => ?_)
      · replace h := jneg c5 h
        refine ev_seg (o := 10) (nL := 7) (q := 6) (xs := [(.iconst 0, 1, 0, 0, .int 0), (.iadd, 1, 0, 0, .null), (.istore 5, 2, 5, 0, .null), (.iinc 6 1, 3, 6, 0, .int 1), (.goto (-48), 3, 0, 0, .null)]) (L' := [some (.ref 93), some (.int x1), some (.int x2), some (.int x3), some (.int x4), some (.int (x5 + 0)), some (.int (x6 + 1))]) (st' := []) (w' := q2.2) (g := []) (K := []) (by decide +kernel) rfl rfl rfl rfl jk0 ?_
        refine ev_mask [true, true, true, true, true, true, true] ?_
        exact ih _ _ _ _ _ _ _ _ h
      · replace h := jpos c5 h
        refine ev_seg (o := 10) (nL := 7) (q := 36) (xs := [(.aload_n 0, 1, 0, 0, .null), (.iload 6, 2, 6, 0, .null), (.iload_n 3, 1, 3, 0, .null), (.iload 4, 2, 4, 0, .null)]) (L' := [some (.ref 93), some (.int x1), some (.int x2), some (.int x3), some (.int x4), some (.int x5), some (.int x6)]) (st' := [.int x4, .int x3, .int x6, .ref 93, .int x5]) (w' := q2.2) (g := []) (K := []) (by decide +kernel) rfl rfl rfl rfl jk0 ?_
        obtain ⟨q3, hq3, h⟩ := jbe h
        refine ev_callV (ci := 10) (a := 93) (y2 := y_Model_toldOf) (o := 10) (idx := 268) (d2 := d_Model_toldOf) (n := 3) (mc2 := 0) (ms2 := 0) (As := [.int x6, .int x3, .int x4]) (st := [.int x5]) (res2 := (some (.int q3.1), jR0, q3.2)) (by decide +kernel) rfl lk_10_268 mo_Model_toldOf mv_Model_toldOf ⟨Nat.le_of_ble_eq_true rfl, Nat.le_of_ble_eq_true rfl⟩ rfl rfl kz_93 (by decide) rfl (Nat.le_of_ble_eq_true rfl) ⟨Nat.le_refl _, Nat.le_refl _⟩ hG (e_Model_toldOf hG hq3) ?_
        refine ev_seg (o := 10) (nL := 7) (q := 40) (xs := [(.iload_n 1, 1, 1, 0, .null)]) (L' := [some (.ref 93), some (.int x1), some (.int x2), some (.int x3), some (.int x4), some (.int x5), some (.int x6)]) (st' := [.int x1, .int q3.1, .int x5]) (w' := q3.2) (g := []) (K := []) (by decide +kernel) rfl rfl rfl rfl jk0 ?_
        refine ev_icmp_ne (off := 7) (tgt := 47) (by decide +kernel) (by decide) (fun c4 => ?_) (fun c4 => ?_)
        · replace h := jneg c4 h
          refine ev_seg (o := 10) (nL := 7) (q := 6) (xs := [(.iconst 0, 1, 0, 0, .int 0), (.iadd, 1, 0, 0, .null), (.istore 5, 2, 5, 0, .null), (.iinc 6 1, 3, 6, 0, .int 1), (.goto (-48), 3, 0, 0, .null)]) (L' := [some (.ref 93), some (.int x1), some (.int x2), some (.int x3), some (.int x4), some (.int (x5 + 0)), some (.int (x6 + 1))]) (st' := []) (w' := q3.2) (g := []) (K := []) (by decide +kernel) rfl rfl rfl rfl jk0 ?_
          refine ev_mask [true, true, true, true, true, true, true] ?_
          exact ih _ _ _ _ _ _ _ _ h
        · replace h := jpos c4 h
          refine ev_seg (o := 10) (nL := 7) (q := 6) (xs := [(.iconst 1, 1, 0, 0, .int 1), (.goto 4, 3, 0, 0, .null), (.iadd, 1, 0, 0, .null), (.istore 5, 2, 5, 0, .null), (.iinc 6 1, 3, 6, 0, .int 1), (.goto (-48), 3, 0, 0, .null)]) (L' := [some (.ref 93), some (.int x1), some (.int x2), some (.int x3), some (.int x4), some (.int (x5 + 1)), some (.int (x6 + 1))]) (st' := []) (w' := q3.2) (g := []) (K := []) (by decide +kernel) rfl rfl rfl rfl jk0 ?_
          refine ev_mask [true, true, true, true, true, true, true] ?_
          exact ih _ _ _ _ _ _ _ _ h
def f_Model_toldThere (x1 : Int32) (x2 : Int32) (x3 : Int32) (x4 : Int32) (w : jW) : Option (Int32 × jW) :=
  f_Model_toldThere_h6 jfu x1 x2 x3 x4 0 0 w
set_option maxRecDepth 20000 in
theorem e_Model_toldThere {l : Launch} {G : jG} (hG : jX G) {x1 : Int32} {x2 : Int32} {x3 : Int32} {x4 : Int32} {w : jW} {z : (Int32 × jW)} (h : f_Model_toldThere x1 x2 x3 x4 w = some z) : Ct l G y_Model_toldThere d_Model_toldThere 0 0 [.ref 93, .int x1, .int x2, .int x3, .int x4] jR0 w (some (.int z.1), jR0, z.2) := by
  rw [f_Model_toldThere] at h
  refine Ct.of (L := [some (.ref 93), some (.int x1), some (.int x2), some (.int x3), some (.int x4), none, none]) (by decide) (Nat.le_of_ble_eq_true rfl) rfl ?_
  refine ev_seg (o := 10) (nL := 7) (q := 6) (xs := [(.iconst 0, 1, 0, 0, .int 0), (.istore 5, 2, 5, 0, .null), (.iconst 0, 1, 0, 0, .int 0), (.istore 6, 2, 6, 0, .null)]) (L' := [some (.ref 93), some (.int x1), some (.int x2), some (.int x3), some (.int x4), some (.int 0), some (.int 0)]) (st' := []) (w' := w) (g := []) (K := []) (by decide +kernel) rfl rfl rfl rfl jk0 ?_
  refine ev_mask [true, true, true, true, true, true, true] ?_
  exact t_Model_toldThere_h6 hG jfu _ _ _ _ _ _ _ _ h
def f_Model_toldAt (x1 : Int32) (x2 : Int32) (x3 : Int32) (x4 : Int32) (w : jW) : Option (Int32 × jW) :=
  Option.bind (f_Model_isSite x1 w) fun q1 =>
  if q1.1 = 0 then
    some ((-1), q1.2)
  else
    Option.bind (f_Model_isIn x2 0 3 q1.2) fun q2 =>
    if q2.1 = 0 then
      some ((-1), q2.2)
    else
      Option.bind (f_Model_isDay x3 q2.2) fun q3 =>
      if q3.1 = 0 then
        some ((-1), q3.2)
      else
        Option.bind (f_Model_isDay x4 q3.2) fun q4 =>
        if q4.1 = 0 then
          some ((-1), q4.2)
        else
          Option.bind (f_Model_toldThere x1 x2 x3 x4 q4.2) fun q5 =>
          some (q5.1, q5.2)
set_option maxRecDepth 20000 in
theorem e_Model_toldAt {l : Launch} {G : jG} (hG : jX G) {x1 : Int32} {x2 : Int32} {x3 : Int32} {x4 : Int32} {w : jW} {z : (Int32 × jW)} (h : f_Model_toldAt x1 x2 x3 x4 w = some z) : Ct l G y_Model_toldAt d_Model_toldAt 0 0 [.ref 93, .int x1, .int x2, .int x3, .int x4] jR0 w (some (.int z.1), jR0, z.2) := by
  rw [f_Model_toldAt] at h
  refine Ct.of (L := [some (.ref 93), some (.int x1), some (.int x2), some (.int x3), some (.int x4)]) (by decide) (Nat.le_of_ble_eq_true rfl) rfl ?_
  refine ev_seg (o := 10) (nL := 5) (q := 2) (xs := [(.aload_n 0, 1, 0, 0, .null), (.iload_n 1, 1, 1, 0, .null)]) (L' := [some (.ref 93), some (.int x1), some (.int x2), some (.int x3), some (.int x4)]) (st' := [.int x1, .ref 93]) (w' := w) (g := []) (K := []) (by decide +kernel) rfl rfl rfl rfl jk0 ?_
  obtain ⟨q1, hq1, h⟩ := jbe h
  refine ev_callV (ci := 10) (a := 93) (y2 := y_Model_isSite) (o := 10) (idx := 50) (d2 := d_Model_isSite) (n := 1) (mc2 := 0) (ms2 := 0) (As := [.int x1]) (st := []) (res2 := (some (.int q1.1), jR0, q1.2)) (by decide +kernel) rfl lk_10_50 mo_Model_isSite mv_Model_isSite ⟨Nat.le_of_ble_eq_true rfl, Nat.le_of_ble_eq_true rfl⟩ rfl rfl kz_93 (by decide) rfl (Nat.le_of_ble_eq_true rfl) ⟨Nat.le_refl _, Nat.le_refl _⟩ hG (e_Model_isSite hG hq1) ?_
  refine ev_if_eq (off := 39) (tgt := 44) (by decide +kernel) (by decide) (fun c9 => ?_) (fun c9 => ?_)
  · replace h := jpos c9 h
    refine ev_seg (o := 10) (nL := 5) (q := 45) (xs := [(.iconst (-1), 1, 0, 0, .int (-1))]) (L' := [some (.ref 93), some (.int x1), some (.int x2), some (.int x3), some (.int x4)]) (st' := [.int (-1)]) (w' := q1.2) (g := []) (K := []) (by decide +kernel) rfl rfl rfl rfl jk0 ?_
    cases h
    exact ev_iret (by decide +kernel) rfl rfl rfl rfl
  · replace h := jneg c9 h
    refine ev_seg (o := 10) (nL := 5) (q := 11) (xs := [(.iload_n 2, 1, 2, 0, .null), (.iconst 0, 1, 0, 0, .int 0), (.iconst 3, 1, 0, 0, .int 3)]) (L' := [some (.ref 93), some (.int x1), some (.int x2), some (.int x3), some (.int x4)]) (st' := [.int 3, .int 0, .int x2]) (w' := q1.2) (g := []) (K := []) (by decide +kernel) rfl rfl rfl rfl jk0 ?_
    obtain ⟨q2, hq2, h⟩ := jbe h
    refine ev_callS (y2 := y_Model_isIn) (o := 10) (idx := 46) (d2 := d_Model_isIn) (n := 3) (mc2 := 0) (ms2 := 0) (As := [.int x2, .int 0, .int 3]) (st := []) (res2 := (some (.int q2.1), jR0, q2.2)) (by decide +kernel) rfl lk_10_46 mo_Model_isIn ms_Model_isIn ⟨Nat.le_of_ble_eq_true rfl, Nat.le_of_ble_eq_true rfl⟩ rfl rfl (Nat.le_of_ble_eq_true rfl) ⟨Nat.le_refl _, Nat.le_refl _⟩ hG (e_Model_isIn hG hq2) ?_
    refine ev_if_eq (off := 30) (tgt := 44) (by decide +kernel) (by decide) (fun c8 => ?_) (fun c8 => ?_)
    · replace h := jpos c8 h
      refine ev_seg (o := 10) (nL := 5) (q := 45) (xs := [(.iconst (-1), 1, 0, 0, .int (-1))]) (L' := [some (.ref 93), some (.int x1), some (.int x2), some (.int x3), some (.int x4)]) (st' := [.int (-1)]) (w' := q2.2) (g := []) (K := []) (by decide +kernel) rfl rfl rfl rfl jk0 ?_
      cases h
      exact ev_iret (by decide +kernel) rfl rfl rfl rfl
    · replace h := jneg c8 h
      refine ev_seg (o := 10) (nL := 5) (q := 18) (xs := [(.iload_n 3, 1, 3, 0, .null)]) (L' := [some (.ref 93), some (.int x1), some (.int x2), some (.int x3), some (.int x4)]) (st' := [.int x3]) (w' := q2.2) (g := []) (K := []) (by decide +kernel) rfl rfl rfl rfl jk0 ?_
      obtain ⟨q3, hq3, h⟩ := jbe h
      refine ev_callS (y2 := y_Model_isDay) (o := 10) (idx := 75) (d2 := d_Model_isDay) (n := 1) (mc2 := 0) (ms2 := 0) (As := [.int x3]) (st := []) (res2 := (some (.int q3.1), jR0, q3.2)) (by decide +kernel) rfl lk_10_75 mo_Model_isDay ms_Model_isDay ⟨Nat.le_of_ble_eq_true rfl, Nat.le_of_ble_eq_true rfl⟩ rfl rfl (Nat.le_of_ble_eq_true rfl) ⟨Nat.le_refl _, Nat.le_refl _⟩ hG (e_Model_isDay hG hq3) ?_
      refine ev_if_eq (off := 23) (tgt := 44) (by decide +kernel) (by decide) (fun c7 => ?_) (fun c7 => ?_)
      · replace h := jpos c7 h
        refine ev_seg (o := 10) (nL := 5) (q := 45) (xs := [(.iconst (-1), 1, 0, 0, .int (-1))]) (L' := [some (.ref 93), some (.int x1), some (.int x2), some (.int x3), some (.int x4)]) (st' := [.int (-1)]) (w' := q3.2) (g := []) (K := []) (by decide +kernel) rfl rfl rfl rfl jk0 ?_
        cases h
        exact ev_iret (by decide +kernel) rfl rfl rfl rfl
      · replace h := jneg c7 h
        refine ev_seg (o := 10) (nL := 5) (q := 26) (xs := [(.iload 4, 2, 4, 0, .null)]) (L' := [some (.ref 93), some (.int x1), some (.int x2), some (.int x3), some (.int x4)]) (st' := [.int x4]) (w' := q3.2) (g := []) (K := []) (by decide +kernel) rfl rfl rfl rfl jk0 ?_
        obtain ⟨q4, hq4, h⟩ := jbe h
        refine ev_callS (y2 := y_Model_isDay) (o := 10) (idx := 75) (d2 := d_Model_isDay) (n := 1) (mc2 := 0) (ms2 := 0) (As := [.int x4]) (st := []) (res2 := (some (.int q4.1), jR0, q4.2)) (by decide +kernel) rfl lk_10_75 mo_Model_isDay ms_Model_isDay ⟨Nat.le_of_ble_eq_true rfl, Nat.le_of_ble_eq_true rfl⟩ rfl rfl (Nat.le_of_ble_eq_true rfl) ⟨Nat.le_refl _, Nat.le_refl _⟩ hG (e_Model_isDay hG hq4) ?_
        refine ev_if_eq (off := 15) (tgt := 44) (by decide +kernel) (by decide) (fun c6 => ?_) (fun c6 => ?_)
        · replace h := jpos c6 h
          refine ev_seg (o := 10) (nL := 5) (q := 45) (xs := [(.iconst (-1), 1, 0, 0, .int (-1))]) (L' := [some (.ref 93), some (.int x1), some (.int x2), some (.int x3), some (.int x4)]) (st' := [.int (-1)]) (w' := q4.2) (g := []) (K := []) (by decide +kernel) rfl rfl rfl rfl jk0 ?_
          cases h
          exact ev_iret (by decide +kernel) rfl rfl rfl rfl
        · replace h := jneg c6 h
          refine ev_seg (o := 10) (nL := 5) (q := 38) (xs := [(.aload_n 0, 1, 0, 0, .null), (.iload_n 1, 1, 1, 0, .null), (.iload_n 2, 1, 2, 0, .null), (.iload_n 3, 1, 3, 0, .null), (.iload 4, 2, 4, 0, .null)]) (L' := [some (.ref 93), some (.int x1), some (.int x2), some (.int x3), some (.int x4)]) (st' := [.int x4, .int x3, .int x2, .int x1, .ref 93]) (w' := q4.2) (g := []) (K := []) (by decide +kernel) rfl rfl rfl rfl jk0 ?_
          obtain ⟨q5, hq5, h⟩ := jbe h
          refine ev_callV (ci := 10) (a := 93) (y2 := y_Model_toldThere) (o := 10) (idx := 271) (d2 := d_Model_toldThere) (n := 4) (mc2 := 0) (ms2 := 0) (As := [.int x1, .int x2, .int x3, .int x4]) (st := []) (res2 := (some (.int q5.1), jR0, q5.2)) (by decide +kernel) rfl lk_10_271 mo_Model_toldThere mv_Model_toldThere ⟨Nat.le_of_ble_eq_true rfl, Nat.le_of_ble_eq_true rfl⟩ rfl rfl kz_93 (by decide) rfl (Nat.le_of_ble_eq_true rfl) ⟨Nat.le_refl _, Nat.le_refl _⟩ hG (e_Model_toldThere hG hq5) ?_
          refine ev_seg (o := 10) (nL := 5) (q := 45) (xs := [(.goto 4, 3, 0, 0, .null)]) (L' := [some (.ref 93), some (.int x1), some (.int x2), some (.int x3), some (.int x4)]) (st' := [.int q5.1]) (w' := q5.2) (g := []) (K := []) (by decide +kernel) rfl rfl rfl rfl jk0 ?_
          cases h
          exact ev_iret (by decide +kernel) rfl rfl rfl rfl
def f_Model_visit_j315 (x1 : Int32) (x3 : Int32) (x5 : Int32) (s0 : Int32) (s1 : Int32) (w : jW) : Option (Int32 × jW) :=
  if jal [jin s1 21000] = true then
  jlw ((jup w.1 94 (Int32.toNatClampNeg s1) s0), w.2) fun w16 =>
  if jal [jin (x3 + 9) 21000] = true then
  jlw ((jup w16.1 94 (Int32.toNatClampNeg (x3 + 9)) x5), w16.2) fun w18 =>
  if jal [jin 8 21000] = true then
  Option.bind (f_Model_noted 4 x1 (w18.1 94 (Int32.toNatClampNeg 8)) 0 w18) fun q20 =>
  if jal [jin 8 21000, jin 8 21000] = true then
  jlw ((jup q20.1 94 (Int32.toNatClampNeg 8) ((q20.1 94 (Int32.toNatClampNeg 8)) + 1)), q20.2) fun w22 =>
  if jal [jin 8 21000] = true then
  some (((w22.1 94 (Int32.toNatClampNeg 8)) - 1), w22)
  else none else none
  else none else none else none
set_option maxRecDepth 20000 in
theorem t_Model_visit_j315 {l : Launch} {G : jG} (hG : jX G) {x1 : Int32} {x3 : Int32} {x5 : Int32} {s0 : Int32} {s1 : Int32} {w : jW} {z : (Int32 × jW)} (h : f_Model_visit_j315 x1 x3 x5 s0 s1 w = some z) : Ev l G (jrm d_Model_visit 0 0) y_Model_visit (some (.int z.1), jR0, z.2) 0 0 0 0 315 [some (.ref 93), some (.int x1), none, some (.int x3), none, some (.int x5), none] [.int s0, .int s1, .ref 94] jR0 w := by
  rw [f_Model_visit_j315] at h
  obtain ⟨hg15, h⟩ := jgd h
  refine ev_seg (o := 10) (nL := 7) (q := 316) (xs := [(.iastore, 1, 0, 0, .null)]) (L' := [some (.ref 93), some (.int x1), none, some (.int x3), none, some (.int x5), none]) (st' := []) (w' := ((jup w.1 94 (Int32.toNatClampNeg s1) s0), w.2)) (g := [jin s1 21000]) (K := [(94, 20)]) (by decide +kernel) rfl rfl rfl hg15 (jk1 kz_94 jk0) ?_
  refine jlw_c (P := fun w16 => Ev l G (jrm d_Model_visit 0 0) y_Model_visit (some (.int z.1), jR0, z.2) 0 0 0 0 316 [some (.ref 93), some (.int x1), none, some (.int x3), none, some (.int x5), none] [] jR0 w16) h fun w16 h => ?_
  obtain ⟨hg17, h⟩ := jgd h
  refine ev_seg (o := 10) (nL := 7) (q := 327) (xs := [(.aload_n 0, 1, 0, 0, .null), (.getfield 7, 3, 10, 0, .ref 20), (.iload_n 3, 1, 3, 0, .null), (.bipush 9, 2, 0, 0, .int 9), (.iadd, 1, 0, 0, .null), (.iload 5, 2, 5, 0, .null), (.iastore, 1, 0, 0, .null)]) (L' := [some (.ref 93), some (.int x1), none, some (.int x3), none, some (.int x5), none]) (st' := []) (w' := ((jup w16.1 94 (Int32.toNatClampNeg (x3 + 9)) x5), w16.2)) (g := [jin (x3 + 9) 21000]) (K := [(94, 20), (94, 20), (93, 10)]) (by decide +kernel) rfl rfl rfl hg17 (jk1 kz_94 (jk1 kz_94 (jk1 kz_93 jk0))) ?_
  refine jlw_c (P := fun w18 => Ev l G (jrm d_Model_visit 0 0) y_Model_visit (some (.int z.1), jR0, z.2) 0 0 0 0 327 [some (.ref 93), some (.int x1), none, some (.int x3), none, some (.int x5), none] [] jR0 w18) h fun w18 h => ?_
  obtain ⟨hg19, h⟩ := jgd h
  refine ev_seg (o := 10) (nL := 7) (q := 338) (xs := [(.aload_n 0, 1, 0, 0, .null), (.iconst 4, 1, 0, 0, .int 4), (.iload_n 1, 1, 1, 0, .null), (.aload_n 0, 1, 0, 0, .null), (.getfield 7, 3, 10, 0, .ref 20), (.bipush 8, 2, 0, 0, .int 8), (.iaload, 1, 0, 0, .null), (.iconst 0, 1, 0, 0, .int 0)]) (L' := [some (.ref 93), some (.int x1), none, some (.int x3), none, some (.int x5), none]) (st' := [.int 0, .int (w18.1 94 (Int32.toNatClampNeg 8)), .int x1, .int 4, .ref 93]) (w' := w18) (g := [jin 8 21000]) (K := [(94, 20), (94, 20), (93, 10)]) (by decide +kernel) rfl rfl rfl hg19 (jk1 kz_94 (jk1 kz_94 (jk1 kz_93 jk0))) ?_
  obtain ⟨q20, hq20, h⟩ := jbe h
  refine ev_callV (ci := 10) (a := 93) (y2 := y_Model_noted) (o := 10) (idx := 62) (d2 := d_Model_noted) (n := 4) (mc2 := 0) (ms2 := 0) (As := [.int 4, .int x1, .int (w18.1 94 (Int32.toNatClampNeg 8)), .int 0]) (st := []) (res2 := (none, jR0, q20)) (by decide +kernel) rfl lk_10_62 mo_Model_noted mv_Model_noted ⟨Nat.le_of_ble_eq_true rfl, Nat.le_of_ble_eq_true rfl⟩ rfl rfl kz_93 (by decide) rfl (Nat.le_of_ble_eq_true rfl) ⟨Nat.le_refl _, Nat.le_refl _⟩ hG (e_Model_noted hG hq20) ?_
  obtain ⟨hg21, h⟩ := jgd h
  refine ev_seg (o := 10) (nL := 7) (q := 352) (xs := [(.aload_n 0, 1, 0, 0, .null), (.getfield 7, 3, 10, 0, .ref 20), (.bipush 8, 2, 0, 0, .int 8), (.dup2, 1, 0, 0, .null), (.iaload, 1, 0, 0, .null), (.iconst 1, 1, 0, 0, .int 1), (.iadd, 1, 0, 0, .null), (.iastore, 1, 0, 0, .null)]) (L' := [some (.ref 93), some (.int x1), none, some (.int x3), none, some (.int x5), none]) (st' := []) (w' := ((jup q20.1 94 (Int32.toNatClampNeg 8) ((q20.1 94 (Int32.toNatClampNeg 8)) + 1)), q20.2)) (g := [jin 8 21000, jin 8 21000]) (K := [(94, 20), (94, 20), (94, 20), (93, 10)]) (by decide +kernel) rfl rfl rfl hg21 (jk1 kz_94 (jk1 kz_94 (jk1 kz_94 (jk1 kz_93 jk0)))) ?_
  refine jlw_c (P := fun w22 => Ev l G (jrm d_Model_visit 0 0) y_Model_visit (some (.int z.1), jR0, z.2) 0 0 0 0 352 [some (.ref 93), some (.int x1), none, some (.int x3), none, some (.int x5), none] [] jR0 w22) h fun w22 h => ?_
  obtain ⟨hg23, h⟩ := jgd h
  refine ev_seg (o := 10) (nL := 7) (q := 361) (xs := [(.aload_n 0, 1, 0, 0, .null), (.getfield 7, 3, 10, 0, .ref 20), (.bipush 8, 2, 0, 0, .int 8), (.iaload, 1, 0, 0, .null), (.iconst 1, 1, 0, 0, .int 1), (.isub, 1, 0, 0, .null)]) (L' := [some (.ref 93), some (.int x1), none, some (.int x3), none, some (.int x5), none]) (st' := [.int ((w22.1 94 (Int32.toNatClampNeg 8)) - 1)]) (w' := w22) (g := [jin 8 21000]) (K := [(94, 20), (94, 20), (93, 10)]) (by decide +kernel) rfl rfl rfl hg23 (jk1 kz_94 (jk1 kz_94 (jk1 kz_93 jk0))) ?_
  cases h
  exact ev_iret (by decide +kernel) rfl rfl rfl rfl
def f_Model_visit_h224 : Nat → Int32 → Int32 → Int32 → Int32 → Int32 → Int32 → jW → Option (Int32 × jW)
  | 0, _, _, _, _, _, _, _ => none
  | n + 1, x1, x2, x3, x4, x5, x6, w =>
  if jal [jin 5 21000] = true then
  if x6 < (w.1 94 (Int32.toNatClampNeg 5)) then
    if jal [jin (1520 + (4 * x6)) 21000] = true then
    if (w.1 94 (Int32.toNatClampNeg (1520 + (4 * x6)))) = x2 then
      if jal [jin ((1520 + (4 * x6)) + 1) 21000] = true then
      if (w.1 94 (Int32.toNatClampNeg ((1520 + (4 * x6)) + 1))) ≤ x4 then
        (f_Model_visit_h224 n) x1 x2 x3 x4 x6 (x6 + 1) w
      else
        (f_Model_visit_h224 n) x1 x2 x3 x4 x5 (x6 + 1) w
      else none
    else
      (f_Model_visit_h224 n) x1 x2 x3 x4 x5 (x6 + 1) w
    else none
  else
    if x5 < 0 then
      f_Model_visit_j315 x1 x3 x5 (-1) (x3 + 8) w
    else
      Option.bind (f_Model_isWhole x5 x4 w) fun q14 =>
      if q14.1 = 0 then
        f_Model_visit_j315 x1 x3 x5 0 (x3 + 8) q14.2
      else
        f_Model_visit_j315 x1 x3 x5 1 (x3 + 8) q14.2
  else none
set_option maxRecDepth 20000 in
theorem t_Model_visit_h224 {l : Launch} {G : jG} (hG : jX G) : ∀ (n : Nat) (x1 : Int32) (x2 : Int32) (x3 : Int32) (x4 : Int32) (x5 : Int32) (x6 : Int32) (w : jW) (z : (Int32 × jW)), f_Model_visit_h224 n x1 x2 x3 x4 x5 x6 w = some z → Ev l G (jrm d_Model_visit 0 0) y_Model_visit (some (.int z.1), jR0, z.2) 0 0 0 0 224 [some (.ref 93), some (.int x1), some (.int x2), some (.int x3), some (.int x4), some (.int x5), some (.int x6)] [] jR0 w := by
  intro n
  induction n with
  | zero => intro x1 x2 x3 x4 x5 x6 w z h; simp only [f_Model_visit_h224] at h; cases h
  | succ n ih =>
    intro x1 x2 x3 x4 x5 x6 w z h
    rw [f_Model_visit_h224] at h
    obtain ⟨hg13, h⟩ := jgd h
    refine ev_seg (o := 10) (nL := 7) (q := 232) (xs := [(.iload 6, 2, 6, 0, .null), (.aload_n 0, 1, 0, 0, .null), (.getfield 7, 3, 10, 0, .ref 20), (.iconst 5, 1, 0, 0, .int 5), (.iaload, 1, 0, 0, .null)]) (L' := [some (.ref 93), some (.int x1), some (.int x2), some (.int x3), some (.int x4), some (.int x5), some (.int x6)]) (st' := [.int (w.1 94 (Int32.toNatClampNeg 5)), .int x6]) (w' := w) (g := [jin 5 21000]) (K := [(94, 20), (94, 20), (93, 10)]) (by decide +kernel) rfl rfl rfl hg13 (jk1 kz_94 (jk1 kz_94 (jk1 kz_93 jk0))) ?_
    refine ev_icmp_ge (off := 50) (tgt := 282) (by decide +kernel) (by decide) (fun c30 => ?_) (fun c30 => ?_)
    · replace h := jneg c30 h
      refine ev_seg (o := 10) (nL := 7) (q := 292) (xs := [(.aload_n 0, 1, 0, 0, .null), (.getfield 7, 3, 10, 0, .ref 20), (.iload_n 3, 1, 3, 0, .null), (.bipush 8, 2, 0, 0, .int 8), (.iadd, 1, 0, 0, .null), (.iload 5, 2, 5, 0, .null)]) (L' := [some (.ref 93), some (.int x1), some (.int x2), some (.int x3), some (.int x4), some (.int x5), some (.int x6)]) (st' := [.int x5, .int (x3 + 8), .ref 94]) (w' := w) (g := []) (K := [(94, 20), (93, 10)]) (by decide +kernel) rfl rfl rfl rfl (jk1 kz_94 (jk1 kz_93 jk0)) ?_
      refine ev_if_ge (off := 7) (tgt := 299) (by decide +kernel) (by decide) (fun c25 => ?_) (fun c25 => ?_)
      · replace h := jneg c25 h
        refine ev_seg (o := 10) (nL := 7) (q := 304) (xs := [(.aload_n 0, 1, 0, 0, .null), (.iload 5, 2, 5, 0, .null), (.iload 4, 2, 4, 0, .null)]) (L' := [some (.ref 93), some (.int x1), some (.int x2), some (.int x3), some (.int x4), some (.int x5), some (.int x6)]) (st' := [.int x4, .int x5, .ref 93, .int (x3 + 8), .ref 94]) (w' := w) (g := []) (K := []) (by decide +kernel) rfl rfl rfl rfl jk0 ?_
        obtain ⟨q14, hq14, h⟩ := jbe h
        refine ev_callV (ci := 10) (a := 93) (y2 := y_Model_isWhole) (o := 10) (idx := 91) (d2 := d_Model_isWhole) (n := 2) (mc2 := 0) (ms2 := 0) (As := [.int x5, .int x4]) (st := [.int (x3 + 8), .ref 94]) (res2 := (some (.int q14.1), jR0, q14.2)) (by decide +kernel) rfl lk_10_91 mo_Model_isWhole mv_Model_isWhole ⟨Nat.le_of_ble_eq_true rfl, Nat.le_of_ble_eq_true rfl⟩ rfl rfl kz_93 (by decide) rfl (Nat.le_of_ble_eq_true rfl) ⟨Nat.le_refl _, Nat.le_refl _⟩ hG (e_Model_isWhole hG hq14) ?_
        refine ev_if_eq (off := 7) (tgt := 314) (by decide +kernel) (by decide) (fun c24 => ?_) (fun c24 => ?_)
        · replace h := jpos c24 h
          refine ev_seg (o := 10) (nL := 7) (q := 315) (xs := [(.iconst 0, 1, 0, 0, .int 0)]) (L' := [some (.ref 93), some (.int x1), some (.int x2), some (.int x3), some (.int x4), some (.int x5), some (.int x6)]) (st' := [.int 0, .int (x3 + 8), .ref 94]) (w' := q14.2) (g := []) (K := []) (by decide +kernel) rfl rfl rfl rfl jk0 ?_
          refine ev_mask [true, true, false, true, false, true, false] ?_
          exact t_Model_visit_j315 hG h
        · replace h := jneg c24 h
          refine ev_seg (o := 10) (nL := 7) (q := 315) (xs := [(.iconst 1, 1, 0, 0, .int 1), (.goto 4, 3, 0, 0, .null)]) (L' := [some (.ref 93), some (.int x1), some (.int x2), some (.int x3), some (.int x4), some (.int x5), some (.int x6)]) (st' := [.int 1, .int (x3 + 8), .ref 94]) (w' := q14.2) (g := []) (K := []) (by decide +kernel) rfl rfl rfl rfl jk0 ?_
          refine ev_mask [true, true, false, true, false, true, false] ?_
          exact t_Model_visit_j315 hG h
      · replace h := jpos c25 h
        refine ev_seg (o := 10) (nL := 7) (q := 315) (xs := [(.iconst (-1), 1, 0, 0, .int (-1)), (.goto 19, 3, 0, 0, .null)]) (L' := [some (.ref 93), some (.int x1), some (.int x2), some (.int x3), some (.int x4), some (.int x5), some (.int x6)]) (st' := [.int (-1), .int (x3 + 8), .ref 94]) (w' := w) (g := []) (K := []) (by decide +kernel) rfl rfl rfl rfl jk0 ?_
        refine ev_mask [true, true, false, true, false, true, false] ?_
        exact t_Model_visit_j315 hG h
    · replace h := jpos c30 h
      obtain ⟨hg26, h⟩ := jgd h
      refine ev_seg (o := 10) (nL := 7) (q := 249) (xs := [(.aload_n 0, 1, 0, 0, .null), (.getfield 7, 3, 10, 0, .ref 20), (.sipush 1520, 3, 0, 0, .int 1520), (.iconst 4, 1, 0, 0, .int 4), (.iload 6, 2, 6, 0, .null), (.imul, 1, 0, 0, .null), (.iadd, 1, 0, 0, .null), (.iaload, 1, 0, 0, .null), (.iload_n 2, 1, 2, 0, .null)]) (L' := [some (.ref 93), some (.int x1), some (.int x2), some (.int x3), some (.int x4), some (.int x5), some (.int x6)]) (st' := [.int x2, .int (w.1 94 (Int32.toNatClampNeg (1520 + (4 * x6))))]) (w' := w) (g := [jin (1520 + (4 * x6)) 21000]) (K := [(94, 20), (94, 20), (93, 10)]) (by decide +kernel) rfl rfl rfl hg26 (jk1 kz_94 (jk1 kz_94 (jk1 kz_93 jk0))) ?_
      refine ev_icmp_ne (off := 27) (tgt := 276) (by decide +kernel) (by decide) (fun c29 => ?_) (fun c29 => ?_)
      · replace h := jneg c29 h
        refine ev_seg (o := 10) (nL := 7) (q := 224) (xs := [(.iinc 6 1, 3, 6, 0, .int 1), (.goto (-55), 3, 0, 0, .null)]) (L' := [some (.ref 93), some (.int x1), some (.int x2), some (.int x3), some (.int x4), some (.int x5), some (.int (x6 + 1))]) (st' := []) (w' := w) (g := []) (K := []) (by decide +kernel) rfl rfl rfl rfl jk0 ?_
        refine ev_mask [true, true, true, true, true, true, true] ?_
        exact ih _ _ _ _ _ _ _ _ h
      · replace h := jpos c29 h
        obtain ⟨hg27, h⟩ := jgd h
        refine ev_seg (o := 10) (nL := 7) (q := 269) (xs := [(.aload_n 0, 1, 0, 0, .null), (.getfield 7, 3, 10, 0, .ref 20), (.sipush 1520, 3, 0, 0, .int 1520), (.iconst 4, 1, 0, 0, .int 4), (.iload 6, 2, 6, 0, .null), (.imul, 1, 0, 0, .null), (.iadd, 1, 0, 0, .null), (.iconst 1, 1, 0, 0, .int 1), (.iadd, 1, 0, 0, .null), (.iaload, 1, 0, 0, .null), (.iload 4, 2, 4, 0, .null)]) (L' := [some (.ref 93), some (.int x1), some (.int x2), some (.int x3), some (.int x4), some (.int x5), some (.int x6)]) (st' := [.int x4, .int (w.1 94 (Int32.toNatClampNeg ((1520 + (4 * x6)) + 1)))]) (w' := w) (g := [jin ((1520 + (4 * x6)) + 1) 21000]) (K := [(94, 20), (94, 20), (93, 10)]) (by decide +kernel) rfl rfl rfl hg27 (jk1 kz_94 (jk1 kz_94 (jk1 kz_93 jk0))) ?_
        refine ev_icmp_gt (off := 7) (tgt := 276) (by decide +kernel) (by decide) (fun c28 => ?_) (fun c28 => ?_)
        · replace h := jneg c28 h
          refine ev_seg (o := 10) (nL := 7) (q := 224) (xs := [(.iinc 6 1, 3, 6, 0, .int 1), (.goto (-55), 3, 0, 0, .null)]) (L' := [some (.ref 93), some (.int x1), some (.int x2), some (.int x3), some (.int x4), some (.int x5), some (.int (x6 + 1))]) (st' := []) (w' := w) (g := []) (K := []) (by decide +kernel) rfl rfl rfl rfl jk0 ?_
          refine ev_mask [true, true, true, true, true, true, true] ?_
          exact ih _ _ _ _ _ _ _ _ h
        · replace h := jpos c28 h
          refine ev_seg (o := 10) (nL := 7) (q := 224) (xs := [(.iload 6, 2, 6, 0, .null), (.istore 5, 2, 5, 0, .null), (.iinc 6 1, 3, 6, 0, .int 1), (.goto (-55), 3, 0, 0, .null)]) (L' := [some (.ref 93), some (.int x1), some (.int x2), some (.int x3), some (.int x4), some (.int x6), some (.int (x6 + 1))]) (st' := []) (w' := w) (g := []) (K := []) (by decide +kernel) rfl rfl rfl rfl jk0 ?_
          refine ev_mask [true, true, true, true, true, true, true] ?_
          exact ih _ _ _ _ _ _ _ _ h
def f_Model_visit_h134 : Nat → Int32 → Int32 → Int32 → Int32 → Int32 → jW → Option (Int32 × jW)
  | 0, _, _, _, _, _, _ => none
  | n + 1, x1, x2, x3, x4, x5, w =>
  if jal [jin 3 21000] = true then
  if x5 < (w.1 94 (Int32.toNatClampNeg 3)) then
    Option.bind (f_Model_whereOf x5 x4 w) fun q31 =>
    if q31.1 = x2 then
      Option.bind (f_Model_siteAt x2 1 q31.2) fun q32 =>
      if jal [jin 0 21000] = true then
      Option.bind (f_Model_isOne 5 x5 q32.1 (q32.2.1 94 (Int32.toNatClampNeg 0)) 0 q32.2) fun q34 =>
      if q34.1 = 0 then
        Option.bind (f_Model_thingAt x5 0 q34.2) fun q35 =>
        if jal [jin (x3 + (3 + q35.1)) 21000, jin (x3 + (3 + q35.1)) 21000] = true then
        jlw ((jup q35.2.1 94 (Int32.toNatClampNeg (x3 + (3 + q35.1))) ((q35.2.1 94 (Int32.toNatClampNeg (x3 + (3 + q35.1)))) + 1)), q35.2.2) fun w37 =>
        (f_Model_visit_h134 n) x1 x2 x3 x4 (x5 + 1) w37
        else none
      else
        if jal [jin (x3 + 7) 21000, jin (x3 + 7) 21000] = true then
        jlw ((jup q34.2.1 94 (Int32.toNatClampNeg (x3 + 7)) ((q34.2.1 94 (Int32.toNatClampNeg (x3 + 7))) + 1)), q34.2.2) fun w39 =>
        (f_Model_visit_h134 n) x1 x2 x3 x4 (x5 + 1) w39
        else none
      else none
    else
      (f_Model_visit_h134 n) x1 x2 x3 x4 (x5 + 1) q31.2
  else
    f_Model_visit_h224 jfu x1 x2 x3 x4 (-1) 0 w
  else none
set_option maxRecDepth 20000 in
theorem t_Model_visit_h134 {l : Launch} {G : jG} (hG : jX G) : ∀ (n : Nat) (x1 : Int32) (x2 : Int32) (x3 : Int32) (x4 : Int32) (x5 : Int32) (w : jW) (z : (Int32 × jW)), f_Model_visit_h134 n x1 x2 x3 x4 x5 w = some z → Ev l G (jrm d_Model_visit 0 0) y_Model_visit (some (.int z.1), jR0, z.2) 0 0 0 0 134 [some (.ref 93), some (.int x1), some (.int x2), some (.int x3), some (.int x4), some (.int x5), none] [] jR0 w := by
  intro n
  induction n with
  | zero => intro x1 x2 x3 x4 x5 w z h; simp only [f_Model_visit_h134] at h; cases h
  | succ n ih =>
    intro x1 x2 x3 x4 x5 w z h
    rw [f_Model_visit_h134] at h
    obtain ⟨hg12, h⟩ := jgd h
    refine ev_seg (o := 10) (nL := 7) (q := 142) (xs := [(.iload 5, 2, 5, 0, .null), (.aload_n 0, 1, 0, 0, .null), (.getfield 7, 3, 10, 0, .ref 20), (.iconst 3, 1, 0, 0, .int 3), (.iaload, 1, 0, 0, .null)]) (L' := [some (.ref 93), some (.int x1), some (.int x2), some (.int x3), some (.int x4), some (.int x5), none]) (st' := [.int (w.1 94 (Int32.toNatClampNeg 3)), .int x5]) (w' := w) (g := [jin 3 21000]) (K := [(94, 20), (94, 20), (93, 10)]) (by decide +kernel) rfl rfl rfl hg12 (jk1 kz_94 (jk1 kz_94 (jk1 kz_93 jk0))) ?_
    refine ev_icmp_ge (off := 76) (tgt := 218) (by decide +kernel) (by decide) (fun c42 => ?_) (fun c42 => ?_)
    · replace h := jneg c42 h
      refine ev_seg (o := 10) (nL := 7) (q := 224) (xs := [(.iconst (-1), 1, 0, 0, .int (-1)), (.istore 5, 2, 5, 0, .null), (.iconst 0, 1, 0, 0, .int 0), (.istore 6, 2, 6, 0, .null)]) (L' := [some (.ref 93), some (.int x1), some (.int x2), some (.int x3), some (.int x4), some (.int (-1)), some (.int 0)]) (st' := []) (w' := w) (g := []) (K := []) (by decide +kernel) rfl rfl rfl rfl jk0 ?_
      refine ev_mask [true, true, true, true, true, true, true] ?_
      exact t_Model_visit_h224 hG jfu _ _ _ _ _ _ _ _ h
    · replace h := jpos c42 h
      refine ev_seg (o := 10) (nL := 7) (q := 150) (xs := [(.aload_n 0, 1, 0, 0, .null), (.iload 5, 2, 5, 0, .null), (.iload 4, 2, 4, 0, .null)]) (L' := [some (.ref 93), some (.int x1), some (.int x2), some (.int x3), some (.int x4), some (.int x5), none]) (st' := [.int x4, .int x5, .ref 93]) (w' := w) (g := []) (K := []) (by decide +kernel) rfl rfl rfl rfl jk0 ?_
      obtain ⟨q31, hq31, h⟩ := jbe h
      refine ev_callV (ci := 10) (a := 93) (y2 := y_Model_whereOf) (o := 10) (idx := 78) (d2 := d_Model_whereOf) (n := 2) (mc2 := 0) (ms2 := 0) (As := [.int x5, .int x4]) (st := []) (res2 := (some (.int q31.1), jR0, q31.2)) (by decide +kernel) rfl lk_10_78 mo_Model_whereOf mv_Model_whereOf ⟨Nat.le_of_ble_eq_true rfl, Nat.le_of_ble_eq_true rfl⟩ rfl rfl kz_93 (by decide) rfl (Nat.le_of_ble_eq_true rfl) ⟨Nat.le_refl _, Nat.le_refl _⟩ hG (e_Model_whereOf hG hq31) ?_
      refine ev_seg (o := 10) (nL := 7) (q := 154) (xs := [(.iload_n 2, 1, 2, 0, .null)]) (L' := [some (.ref 93), some (.int x1), some (.int x2), some (.int x3), some (.int x4), some (.int x5), none]) (st' := [.int x2, .int q31.1]) (w' := q31.2) (g := []) (K := []) (by decide +kernel) rfl rfl rfl rfl jk0 ?_
      refine ev_icmp_eq (off := 6) (tgt := 160) (by decide +kernel) (by decide) (fun c41 => ?_) (fun c41 => ?_)
      · replace h := jpos c41 h
        refine ev_seg (o := 10) (nL := 7) (q := 167) (xs := [(.aload_n 0, 1, 0, 0, .null), (.iconst 5, 1, 0, 0, .int 5), (.iload 5, 2, 5, 0, .null), (.aload_n 0, 1, 0, 0, .null), (.iload_n 2, 1, 2, 0, .null), (.iconst 1, 1, 0, 0, .int 1)]) (L' := [some (.ref 93), some (.int x1), some (.int x2), some (.int x3), some (.int x4), some (.int x5), none]) (st' := [.int 1, .int x2, .ref 93, .int x5, .int 5, .ref 93]) (w' := q31.2) (g := []) (K := []) (by decide +kernel) rfl rfl rfl rfl jk0 ?_
        obtain ⟨q32, hq32, h⟩ := jbe h
        refine ev_callV (ci := 10) (a := 93) (y2 := y_Model_siteAt) (o := 10) (idx := 54) (d2 := d_Model_siteAt) (n := 2) (mc2 := 0) (ms2 := 0) (As := [.int x2, .int 1]) (st := [.int x5, .int 5, .ref 93]) (res2 := (some (.int q32.1), jR0, q32.2)) (by decide +kernel) rfl lk_10_54 mo_Model_siteAt mv_Model_siteAt ⟨Nat.le_of_ble_eq_true rfl, Nat.le_of_ble_eq_true rfl⟩ rfl rfl kz_93 (by decide) rfl (Nat.le_of_ble_eq_true rfl) ⟨Nat.le_refl _, Nat.le_refl _⟩ hG (e_Model_siteAt hG hq32) ?_
        obtain ⟨hg33, h⟩ := jgd h
        refine ev_seg (o := 10) (nL := 7) (q := 177) (xs := [(.aload_n 0, 1, 0, 0, .null), (.getfield 7, 3, 10, 0, .ref 20), (.iconst 0, 1, 0, 0, .int 0), (.iaload, 1, 0, 0, .null), (.iconst 0, 1, 0, 0, .int 0)]) (L' := [some (.ref 93), some (.int x1), some (.int x2), some (.int x3), some (.int x4), some (.int x5), none]) (st' := [.int 0, .int (q32.2.1 94 (Int32.toNatClampNeg 0)), .int q32.1, .int x5, .int 5, .ref 93]) (w' := q32.2) (g := [jin 0 21000]) (K := [(94, 20), (94, 20), (93, 10)]) (by decide +kernel) rfl rfl rfl hg33 (jk1 kz_94 (jk1 kz_94 (jk1 kz_93 jk0))) ?_
        obtain ⟨q34, hq34, h⟩ := jbe h
        refine ev_callV (ci := 10) (a := 93) (y2 := y_Model_isOne) (o := 10) (idx := 261) (d2 := d_Model_isOne) (n := 5) (mc2 := 0) (ms2 := 0) (As := [.int 5, .int x5, .int q32.1, .int (q32.2.1 94 (Int32.toNatClampNeg 0)), .int 0]) (st := []) (res2 := (some (.int q34.1), jR0, q34.2)) (by decide +kernel) rfl lk_10_261 mo_Model_isOne mv_Model_isOne ⟨Nat.le_of_ble_eq_true rfl, Nat.le_of_ble_eq_true rfl⟩ rfl rfl kz_93 (by decide) rfl (Nat.le_of_ble_eq_true rfl) ⟨Nat.le_refl _, Nat.le_refl _⟩ hG (e_Model_isOne hG hq34) ?_
        refine ev_seg (o := 10) (nL := 7) (q := 189) (xs := [(.istore 6, 2, 6, 0, .null), (.aload_n 0, 1, 0, 0, .null), (.getfield 7, 3, 10, 0, .ref 20), (.iload_n 3, 1, 3, 0, .null), (.iload 6, 2, 6, 0, .null)]) (L' := [some (.ref 93), some (.int x1), some (.int x2), some (.int x3), some (.int x4), some (.int x5), some (.int q34.1)]) (st' := [.int q34.1, .int x3, .ref 94]) (w' := q34.2) (g := []) (K := [(94, 20), (93, 10)]) (by decide +kernel) rfl rfl rfl rfl (jk1 kz_94 (jk1 kz_93 jk0)) ?_
        refine ev_if_eq (off := 8) (tgt := 197) (by decide +kernel) (by decide) (fun c40 => ?_) (fun c40 => ?_)
        · replace h := jpos c40 h
          refine ev_seg (o := 10) (nL := 7) (q := 202) (xs := [(.iconst 3, 1, 0, 0, .int 3), (.aload_n 0, 1, 0, 0, .null), (.iload 5, 2, 5, 0, .null), (.iconst 0, 1, 0, 0, .int 0)]) (L' := [some (.ref 93), some (.int x1), some (.int x2), some (.int x3), some (.int x4), some (.int x5), some (.int q34.1)]) (st' := [.int 0, .int x5, .ref 93, .int 3, .int x3, .ref 94]) (w' := q34.2) (g := []) (K := []) (by decide +kernel) rfl rfl rfl rfl jk0 ?_
          obtain ⟨q35, hq35, h⟩ := jbe h
          refine ev_callV (ci := 10) (a := 93) (y2 := y_Model_thingAt) (o := 10) (idx := 66) (d2 := d_Model_thingAt) (n := 2) (mc2 := 0) (ms2 := 0) (As := [.int x5, .int 0]) (st := [.int 3, .int x3, .ref 94]) (res2 := (some (.int q35.1), jR0, q35.2)) (by decide +kernel) rfl lk_10_66 mo_Model_thingAt mv_Model_thingAt ⟨Nat.le_of_ble_eq_true rfl, Nat.le_of_ble_eq_true rfl⟩ rfl rfl kz_93 (by decide) rfl (Nat.le_of_ble_eq_true rfl) ⟨Nat.le_refl _, Nat.le_refl _⟩ hG (e_Model_thingAt hG hq35) ?_
          obtain ⟨hg36, h⟩ := jgd h
          refine ev_seg (o := 10) (nL := 7) (q := 212) (xs := [(.iadd, 1, 0, 0, .null), (.iadd, 1, 0, 0, .null), (.dup2, 1, 0, 0, .null), (.iaload, 1, 0, 0, .null), (.iconst 1, 1, 0, 0, .int 1), (.iadd, 1, 0, 0, .null), (.iastore, 1, 0, 0, .null)]) (L' := [some (.ref 93), some (.int x1), some (.int x2), some (.int x3), some (.int x4), some (.int x5), some (.int q34.1)]) (st' := []) (w' := ((jup q35.2.1 94 (Int32.toNatClampNeg (x3 + (3 + q35.1))) ((q35.2.1 94 (Int32.toNatClampNeg (x3 + (3 + q35.1)))) + 1)), q35.2.2)) (g := [jin (x3 + (3 + q35.1)) 21000, jin (x3 + (3 + q35.1)) 21000]) (K := [(94, 20), (94, 20)]) (by decide +kernel) rfl rfl rfl hg36 (jk1 kz_94 (jk1 kz_94 jk0)) ?_
          refine jlw_c (P := fun w37 => Ev l G (jrm d_Model_visit 0 0) y_Model_visit (some (.int z.1), jR0, z.2) 0 0 0 0 212 [some (.ref 93), some (.int x1), some (.int x2), some (.int x3), some (.int x4), some (.int x5), some (.int q34.1)] [] jR0 w37) h fun w37 h => ?_
          refine ev_seg (o := 10) (nL := 7) (q := 134) (xs := [(.iinc 5 1, 3, 5, 0, .int 1), (.goto (-81), 3, 0, 0, .null)]) (L' := [some (.ref 93), some (.int x1), some (.int x2), some (.int x3), some (.int x4), some (.int (x5 + 1)), some (.int q34.1)]) (st' := []) (w' := w37) (g := []) (K := []) (by decide +kernel) rfl rfl rfl rfl jk0 ?_
          refine ev_mask [true, true, true, true, true, true, false] ?_
          exact ih _ _ _ _ _ _ _ h
        · replace h := jneg c40 h
          obtain ⟨hg38, h⟩ := jgd h
          refine ev_seg (o := 10) (nL := 7) (q := 212) (xs := [(.bipush 7, 2, 0, 0, .int 7), (.goto 12, 3, 0, 0, .null), (.iadd, 1, 0, 0, .null), (.dup2, 1, 0, 0, .null), (.iaload, 1, 0, 0, .null), (.iconst 1, 1, 0, 0, .int 1), (.iadd, 1, 0, 0, .null), (.iastore, 1, 0, 0, .null)]) (L' := [some (.ref 93), some (.int x1), some (.int x2), some (.int x3), some (.int x4), some (.int x5), some (.int q34.1)]) (st' := []) (w' := ((jup q34.2.1 94 (Int32.toNatClampNeg (x3 + 7)) ((q34.2.1 94 (Int32.toNatClampNeg (x3 + 7))) + 1)), q34.2.2)) (g := [jin (x3 + 7) 21000, jin (x3 + 7) 21000]) (K := [(94, 20), (94, 20)]) (by decide +kernel) rfl rfl rfl hg38 (jk1 kz_94 (jk1 kz_94 jk0)) ?_
          refine jlw_c (P := fun w39 => Ev l G (jrm d_Model_visit 0 0) y_Model_visit (some (.int z.1), jR0, z.2) 0 0 0 0 212 [some (.ref 93), some (.int x1), some (.int x2), some (.int x3), some (.int x4), some (.int x5), some (.int q34.1)] [] jR0 w39) h fun w39 h => ?_
          refine ev_seg (o := 10) (nL := 7) (q := 134) (xs := [(.iinc 5 1, 3, 5, 0, .int 1), (.goto (-81), 3, 0, 0, .null)]) (L' := [some (.ref 93), some (.int x1), some (.int x2), some (.int x3), some (.int x4), some (.int (x5 + 1)), some (.int q34.1)]) (st' := []) (w' := w39) (g := []) (K := []) (by decide +kernel) rfl rfl rfl rfl jk0 ?_
          refine ev_mask [true, true, true, true, true, true, false] ?_
          exact ih _ _ _ _ _ _ _ h
      · replace h := jneg c41 h
        refine ev_seg (o := 10) (nL := 7) (q := 134) (xs := [(.goto 55, 3, 0, 0, .null), (.iinc 5 1, 3, 5, 0, .int 1), (.goto (-81), 3, 0, 0, .null)]) (L' := [some (.ref 93), some (.int x1), some (.int x2), some (.int x3), some (.int x4), some (.int (x5 + 1)), none]) (st' := []) (w' := q31.2) (g := []) (K := []) (by decide +kernel) rfl rfl rfl rfl jk0 ?_
        refine ev_mask [true, true, true, true, true, true, false] ?_
        exact ih _ _ _ _ _ _ _ h
def f_Model_visit_h108 : Nat → Int32 → Int32 → Int32 → Int32 → Int32 → jW → Option (Int32 × jW)
  | 0, _, _, _, _, _, _ => none
  | n + 1, x1, x2, x3, x4, x5, w =>
  if x5 < 8 then
    if jal [jin (x3 + x5) 21000] = true then
    jlw ((jup w.1 94 (Int32.toNatClampNeg (x3 + x5)) 0), w.2) fun w44 =>
    (f_Model_visit_h108 n) x1 x2 x3 x4 (x5 + 1) w44
    else none
  else
    f_Model_visit_h134 jfu x1 x2 x3 x4 0 w
set_option maxRecDepth 20000 in
theorem t_Model_visit_h108 {l : Launch} {G : jG} (hG : jX G) : ∀ (n : Nat) (x1 : Int32) (x2 : Int32) (x3 : Int32) (x4 : Int32) (x5 : Int32) (w : jW) (z : (Int32 × jW)), f_Model_visit_h108 n x1 x2 x3 x4 x5 w = some z → Ev l G (jrm d_Model_visit 0 0) y_Model_visit (some (.int z.1), jR0, z.2) 0 0 0 0 108 [some (.ref 93), some (.int x1), some (.int x2), some (.int x3), some (.int x4), some (.int x5), none] [] jR0 w := by
  intro n
  induction n with
  | zero => intro x1 x2 x3 x4 x5 w z h; simp only [f_Model_visit_h108] at h; cases h
  | succ n ih =>
    intro x1 x2 x3 x4 x5 w z h
    rw [f_Model_visit_h108] at h
    refine ev_seg (o := 10) (nL := 7) (q := 112) (xs := [(.iload 5, 2, 5, 0, .null), (.bipush 8, 2, 0, 0, .int 8)]) (L' := [some (.ref 93), some (.int x1), some (.int x2), some (.int x3), some (.int x4), some (.int x5), none]) (st' := [.int 8, .int x5]) (w' := w) (g := []) (K := []) (by decide +kernel) rfl rfl rfl rfl jk0 ?_
    refine ev_icmp_ge (off := 19) (tgt := 131) (by decide +kernel) (by decide) (fun c45 => ?_) (fun c45 => ?_)
    · replace h := jneg c45 h
      refine ev_seg (o := 10) (nL := 7) (q := 134) (xs := [(.iconst 0, 1, 0, 0, .int 0), (.istore 5, 2, 5, 0, .null)]) (L' := [some (.ref 93), some (.int x1), some (.int x2), some (.int x3), some (.int x4), some (.int 0), none]) (st' := []) (w' := w) (g := []) (K := []) (by decide +kernel) rfl rfl rfl rfl jk0 ?_
      refine ev_mask [true, true, true, true, true, true, false] ?_
      exact t_Model_visit_h134 hG jfu _ _ _ _ _ _ _ h
    · replace h := jpos c45 h
      obtain ⟨hg43, h⟩ := jgd h
      refine ev_seg (o := 10) (nL := 7) (q := 125) (xs := [(.aload_n 0, 1, 0, 0, .null), (.getfield 7, 3, 10, 0, .ref 20), (.iload_n 3, 1, 3, 0, .null), (.iload 5, 2, 5, 0, .null), (.iadd, 1, 0, 0, .null), (.iconst 0, 1, 0, 0, .int 0), (.iastore, 1, 0, 0, .null)]) (L' := [some (.ref 93), some (.int x1), some (.int x2), some (.int x3), some (.int x4), some (.int x5), none]) (st' := []) (w' := ((jup w.1 94 (Int32.toNatClampNeg (x3 + x5)) 0), w.2)) (g := [jin (x3 + x5) 21000]) (K := [(94, 20), (94, 20), (93, 10)]) (by decide +kernel) rfl rfl rfl hg43 (jk1 kz_94 (jk1 kz_94 (jk1 kz_93 jk0))) ?_
      refine jlw_c (P := fun w44 => Ev l G (jrm d_Model_visit 0 0) y_Model_visit (some (.int z.1), jR0, z.2) 0 0 0 0 125 [some (.ref 93), some (.int x1), some (.int x2), some (.int x3), some (.int x4), some (.int x5), none] [] jR0 w44) h fun w44 h => ?_
      refine ev_seg (o := 10) (nL := 7) (q := 108) (xs := [(.iinc 5 1, 3, 5, 0, .int 1), (.goto (-20), 3, 0, 0, .null)]) (L' := [some (.ref 93), some (.int x1), some (.int x2), some (.int x3), some (.int x4), some (.int (x5 + 1)), none]) (st' := []) (w' := w44) (g := []) (K := []) (by decide +kernel) rfl rfl rfl rfl jk0 ?_
      refine ev_mask [true, true, true, true, true, true, false] ?_
      exact ih _ _ _ _ _ _ _ h
def f_Model_visit (x1 : Int32) (x2 : Int32) (w : jW) : Option (Int32 × jW) :=
  Option.bind (f_Model_isIn x1 0 1 w) fun q1 =>
  if q1.1 = 0 then
    some ((-1), q1.2)
  else
    Option.bind (f_Model_isSite x2 q1.2) fun q2 =>
    if q2.1 = 0 then
      some ((-1), q2.2)
    else
      Option.bind (f_Model_siteAt x2 0 q2.2) fun q3 =>
      if q3.1 = x1 then
        some ((-1), q3.2)
      else
        if jal [jin 0 21000] = true then
        if (q3.2.1 94 (Int32.toNatClampNeg 0)) = 0 then
          some ((-1), q3.2)
        else
          if jal [jin 8 21000] = true then
          if (q3.2.1 94 (Int32.toNatClampNeg 8)) = 100 then
            some ((-1), q3.2)
          else
            if jal [jin (11280 + (12 * (q3.2.1 94 (Int32.toNatClampNeg 8)))) 21000, jin 0 21000, jin 8 21000] = true then
            jlw ((jup q3.2.1 94 (Int32.toNatClampNeg (11280 + (12 * (q3.2.1 94 (Int32.toNatClampNeg 8))))) x1), q3.2.2) fun w7 =>
            if jal [jin ((11280 + (12 * (q3.2.1 94 (Int32.toNatClampNeg 8)))) + 1) 21000] = true then
            jlw ((jup w7.1 94 (Int32.toNatClampNeg ((11280 + (12 * (q3.2.1 94 (Int32.toNatClampNeg 8)))) + 1)) x2), w7.2) fun w9 =>
            if jal [jin ((11280 + (12 * (q3.2.1 94 (Int32.toNatClampNeg 8)))) + 2) 21000, jin 0 21000] = true then
            jlw ((jup w9.1 94 (Int32.toNatClampNeg ((11280 + (12 * (q3.2.1 94 (Int32.toNatClampNeg 8)))) + 2)) (w9.1 94 (Int32.toNatClampNeg 0))), w9.2) fun w11 =>
            f_Model_visit_h108 jfu x1 x2 (11280 + (12 * (q3.2.1 94 (Int32.toNatClampNeg 8)))) ((q3.2.1 94 (Int32.toNatClampNeg 0)) - 1) 3 w11
            else none else none else none
          else none
        else none
set_option maxRecDepth 20000 in
theorem e_Model_visit {l : Launch} {G : jG} (hG : jX G) {x1 : Int32} {x2 : Int32} {w : jW} {z : (Int32 × jW)} (h : f_Model_visit x1 x2 w = some z) : Ct l G y_Model_visit d_Model_visit 0 0 [.ref 93, .int x1, .int x2] jR0 w (some (.int z.1), jR0, z.2) := by
  rw [f_Model_visit] at h
  refine Ct.of (L := [some (.ref 93), some (.int x1), some (.int x2), none, none, none, none]) (by decide) (Nat.le_of_ble_eq_true rfl) rfl ?_
  refine ev_seg (o := 10) (nL := 7) (q := 3) (xs := [(.iload_n 1, 1, 1, 0, .null), (.iconst 0, 1, 0, 0, .int 0), (.iconst 1, 1, 0, 0, .int 1)]) (L' := [some (.ref 93), some (.int x1), some (.int x2), none, none, none, none]) (st' := [.int 1, .int 0, .int x1]) (w' := w) (g := []) (K := []) (by decide +kernel) rfl rfl rfl rfl jk0 ?_
  obtain ⟨q1, hq1, h⟩ := jbe h
  refine ev_callS (y2 := y_Model_isIn) (o := 10) (idx := 46) (d2 := d_Model_isIn) (n := 3) (mc2 := 0) (ms2 := 0) (As := [.int x1, .int 0, .int 1]) (st := []) (res2 := (some (.int q1.1), jR0, q1.2)) (by decide +kernel) rfl lk_10_46 mo_Model_isIn ms_Model_isIn ⟨Nat.le_of_ble_eq_true rfl, Nat.le_of_ble_eq_true rfl⟩ rfl rfl (Nat.le_of_ble_eq_true rfl) ⟨Nat.le_refl _, Nat.le_refl _⟩ hG (e_Model_isIn hG hq1) ?_
  refine ev_if_eq (off := 42) (tgt := 48) (by decide +kernel) (by decide) (fun c50 => ?_) (fun c50 => ?_)
  · replace h := jpos c50 h
    refine ev_seg (o := 10) (nL := 7) (q := 49) (xs := [(.iconst (-1), 1, 0, 0, .int (-1))]) (L' := [some (.ref 93), some (.int x1), some (.int x2), none, none, none, none]) (st' := [.int (-1)]) (w' := q1.2) (g := []) (K := []) (by decide +kernel) rfl rfl rfl rfl jk0 ?_
    cases h
    exact ev_iret (by decide +kernel) rfl rfl rfl rfl
  · replace h := jneg c50 h
    refine ev_seg (o := 10) (nL := 7) (q := 11) (xs := [(.aload_n 0, 1, 0, 0, .null), (.iload_n 2, 1, 2, 0, .null)]) (L' := [some (.ref 93), some (.int x1), some (.int x2), none, none, none, none]) (st' := [.int x2, .ref 93]) (w' := q1.2) (g := []) (K := []) (by decide +kernel) rfl rfl rfl rfl jk0 ?_
    obtain ⟨q2, hq2, h⟩ := jbe h
    refine ev_callV (ci := 10) (a := 93) (y2 := y_Model_isSite) (o := 10) (idx := 50) (d2 := d_Model_isSite) (n := 1) (mc2 := 0) (ms2 := 0) (As := [.int x2]) (st := []) (res2 := (some (.int q2.1), jR0, q2.2)) (by decide +kernel) rfl lk_10_50 mo_Model_isSite mv_Model_isSite ⟨Nat.le_of_ble_eq_true rfl, Nat.le_of_ble_eq_true rfl⟩ rfl rfl kz_93 (by decide) rfl (Nat.le_of_ble_eq_true rfl) ⟨Nat.le_refl _, Nat.le_refl _⟩ hG (e_Model_isSite hG hq2) ?_
    refine ev_if_eq (off := 34) (tgt := 48) (by decide +kernel) (by decide) (fun c49 => ?_) (fun c49 => ?_)
    · replace h := jpos c49 h
      refine ev_seg (o := 10) (nL := 7) (q := 49) (xs := [(.iconst (-1), 1, 0, 0, .int (-1))]) (L' := [some (.ref 93), some (.int x1), some (.int x2), none, none, none, none]) (st' := [.int (-1)]) (w' := q2.2) (g := []) (K := []) (by decide +kernel) rfl rfl rfl rfl jk0 ?_
      cases h
      exact ev_iret (by decide +kernel) rfl rfl rfl rfl
    · replace h := jneg c49 h
      refine ev_seg (o := 10) (nL := 7) (q := 20) (xs := [(.aload_n 0, 1, 0, 0, .null), (.iload_n 2, 1, 2, 0, .null), (.iconst 0, 1, 0, 0, .int 0)]) (L' := [some (.ref 93), some (.int x1), some (.int x2), none, none, none, none]) (st' := [.int 0, .int x2, .ref 93]) (w' := q2.2) (g := []) (K := []) (by decide +kernel) rfl rfl rfl rfl jk0 ?_
      obtain ⟨q3, hq3, h⟩ := jbe h
      refine ev_callV (ci := 10) (a := 93) (y2 := y_Model_siteAt) (o := 10) (idx := 54) (d2 := d_Model_siteAt) (n := 2) (mc2 := 0) (ms2 := 0) (As := [.int x2, .int 0]) (st := []) (res2 := (some (.int q3.1), jR0, q3.2)) (by decide +kernel) rfl lk_10_54 mo_Model_siteAt mv_Model_siteAt ⟨Nat.le_of_ble_eq_true rfl, Nat.le_of_ble_eq_true rfl⟩ rfl rfl kz_93 (by decide) rfl (Nat.le_of_ble_eq_true rfl) ⟨Nat.le_refl _, Nat.le_refl _⟩ hG (e_Model_siteAt hG hq3) ?_
      refine ev_seg (o := 10) (nL := 7) (q := 24) (xs := [(.iload_n 1, 1, 1, 0, .null)]) (L' := [some (.ref 93), some (.int x1), some (.int x2), none, none, none, none]) (st' := [.int x1, .int q3.1]) (w' := q3.2) (g := []) (K := []) (by decide +kernel) rfl rfl rfl rfl jk0 ?_
      refine ev_icmp_eq (off := 24) (tgt := 48) (by decide +kernel) (by decide) (fun c48 => ?_) (fun c48 => ?_)
      · replace h := jpos c48 h
        refine ev_seg (o := 10) (nL := 7) (q := 49) (xs := [(.iconst (-1), 1, 0, 0, .int (-1))]) (L' := [some (.ref 93), some (.int x1), some (.int x2), none, none, none, none]) (st' := [.int (-1)]) (w' := q3.2) (g := []) (K := []) (by decide +kernel) rfl rfl rfl rfl jk0 ?_
        cases h
        exact ev_iret (by decide +kernel) rfl rfl rfl rfl
      · replace h := jneg c48 h
        obtain ⟨hg4, h⟩ := jgd h
        refine ev_seg (o := 10) (nL := 7) (q := 33) (xs := [(.aload_n 0, 1, 0, 0, .null), (.getfield 7, 3, 10, 0, .ref 20), (.iconst 0, 1, 0, 0, .int 0), (.iaload, 1, 0, 0, .null)]) (L' := [some (.ref 93), some (.int x1), some (.int x2), none, none, none, none]) (st' := [.int (q3.2.1 94 (Int32.toNatClampNeg 0))]) (w' := q3.2) (g := [jin 0 21000]) (K := [(94, 20), (94, 20), (93, 10)]) (by decide +kernel) rfl rfl rfl hg4 (jk1 kz_94 (jk1 kz_94 (jk1 kz_93 jk0))) ?_
        refine ev_if_eq (off := 15) (tgt := 48) (by decide +kernel) (by decide) (fun c47 => ?_) (fun c47 => ?_)
        · replace h := jpos c47 h
          refine ev_seg (o := 10) (nL := 7) (q := 49) (xs := [(.iconst (-1), 1, 0, 0, .int (-1))]) (L' := [some (.ref 93), some (.int x1), some (.int x2), none, none, none, none]) (st' := [.int (-1)]) (w' := q3.2) (g := []) (K := []) (by decide +kernel) rfl rfl rfl rfl jk0 ?_
          cases h
          exact ev_iret (by decide +kernel) rfl rfl rfl rfl
        · replace h := jneg c47 h
          obtain ⟨hg5, h⟩ := jgd h
          refine ev_seg (o := 10) (nL := 7) (q := 45) (xs := [(.aload_n 0, 1, 0, 0, .null), (.getfield 7, 3, 10, 0, .ref 20), (.bipush 8, 2, 0, 0, .int 8), (.iaload, 1, 0, 0, .null), (.bipush 100, 2, 0, 0, .int 100)]) (L' := [some (.ref 93), some (.int x1), some (.int x2), none, none, none, none]) (st' := [.int 100, .int (q3.2.1 94 (Int32.toNatClampNeg 8))]) (w' := q3.2) (g := [jin 8 21000]) (K := [(94, 20), (94, 20), (93, 10)]) (by decide +kernel) rfl rfl rfl hg5 (jk1 kz_94 (jk1 kz_94 (jk1 kz_93 jk0))) ?_
          refine ev_icmp_ne (off := 5) (tgt := 50) (by decide +kernel) (by decide) (fun c46 => ?_) (fun c46 => ?_)
          · replace h := jneg c46 h
            obtain ⟨hg6, h⟩ := jgd h
            refine ev_seg (o := 10) (nL := 7) (q := 82) (xs := [(.sipush 11280, 3, 0, 0, .int 11280), (.bipush 12, 2, 0, 0, .int 12), (.aload_n 0, 1, 0, 0, .null), (.getfield 7, 3, 10, 0, .ref 20), (.bipush 8, 2, 0, 0, .int 8), (.iaload, 1, 0, 0, .null), (.imul, 1, 0, 0, .null), (.iadd, 1, 0, 0, .null), (.istore_n 3, 1, 3, 0, .null), (.aload_n 0, 1, 0, 0, .null), (.getfield 7, 3, 10, 0, .ref 20), (.iconst 0, 1, 0, 0, .int 0), (.iaload, 1, 0, 0, .null), (.iconst 1, 1, 0, 0, .int 1), (.isub, 1, 0, 0, .null), (.istore 4, 2, 4, 0, .null), (.aload_n 0, 1, 0, 0, .null), (.getfield 7, 3, 10, 0, .ref 20), (.iload_n 3, 1, 3, 0, .null), (.iload_n 1, 1, 1, 0, .null), (.iastore, 1, 0, 0, .null)]) (L' := [some (.ref 93), some (.int x1), some (.int x2), some (.int (11280 + (12 * (q3.2.1 94 (Int32.toNatClampNeg 8))))), some (.int ((q3.2.1 94 (Int32.toNatClampNeg 0)) - 1)), none, none]) (st' := []) (w' := ((jup q3.2.1 94 (Int32.toNatClampNeg (11280 + (12 * (q3.2.1 94 (Int32.toNatClampNeg 8))))) x1), q3.2.2)) (g := [jin (11280 + (12 * (q3.2.1 94 (Int32.toNatClampNeg 8)))) 21000, jin 0 21000, jin 8 21000]) (K := [(94, 20), (94, 20), (93, 10), (94, 20), (94, 20), (93, 10), (94, 20), (94, 20), (93, 10)]) (by decide +kernel) rfl rfl rfl hg6 (jk1 kz_94 (jk1 kz_94 (jk1 kz_93 (jk1 kz_94 (jk1 kz_94 (jk1 kz_93 (jk1 kz_94 (jk1 kz_94 (jk1 kz_93 jk0))))))))) ?_
            refine jlw_c (P := fun w7 => Ev l G (jrm d_Model_visit 0 0) y_Model_visit (some (.int z.1), jR0, z.2) 0 0 0 0 82 [some (.ref 93), some (.int x1), some (.int x2), some (.int (11280 + (12 * (q3.2.1 94 (Int32.toNatClampNeg 8))))), some (.int ((q3.2.1 94 (Int32.toNatClampNeg 0)) - 1)), none, none] [] jR0 w7) h fun w7 h => ?_
            obtain ⟨hg8, h⟩ := jgd h
            refine ev_seg (o := 10) (nL := 7) (q := 91) (xs := [(.aload_n 0, 1, 0, 0, .null), (.getfield 7, 3, 10, 0, .ref 20), (.iload_n 3, 1, 3, 0, .null), (.iconst 1, 1, 0, 0, .int 1), (.iadd, 1, 0, 0, .null), (.iload_n 2, 1, 2, 0, .null), (.iastore, 1, 0, 0, .null)]) (L' := [some (.ref 93), some (.int x1), some (.int x2), some (.int (11280 + (12 * (q3.2.1 94 (Int32.toNatClampNeg 8))))), some (.int ((q3.2.1 94 (Int32.toNatClampNeg 0)) - 1)), none, none]) (st' := []) (w' := ((jup w7.1 94 (Int32.toNatClampNeg ((11280 + (12 * (q3.2.1 94 (Int32.toNatClampNeg 8)))) + 1)) x2), w7.2)) (g := [jin ((11280 + (12 * (q3.2.1 94 (Int32.toNatClampNeg 8)))) + 1) 21000]) (K := [(94, 20), (94, 20), (93, 10)]) (by decide +kernel) rfl rfl rfl hg8 (jk1 kz_94 (jk1 kz_94 (jk1 kz_93 jk0))) ?_
            refine jlw_c (P := fun w9 => Ev l G (jrm d_Model_visit 0 0) y_Model_visit (some (.int z.1), jR0, z.2) 0 0 0 0 91 [some (.ref 93), some (.int x1), some (.int x2), some (.int (11280 + (12 * (q3.2.1 94 (Int32.toNatClampNeg 8))))), some (.int ((q3.2.1 94 (Int32.toNatClampNeg 0)) - 1)), none, none] [] jR0 w9) h fun w9 h => ?_
            obtain ⟨hg10, h⟩ := jgd h
            refine ev_seg (o := 10) (nL := 7) (q := 105) (xs := [(.aload_n 0, 1, 0, 0, .null), (.getfield 7, 3, 10, 0, .ref 20), (.iload_n 3, 1, 3, 0, .null), (.iconst 2, 1, 0, 0, .int 2), (.iadd, 1, 0, 0, .null), (.aload_n 0, 1, 0, 0, .null), (.getfield 7, 3, 10, 0, .ref 20), (.iconst 0, 1, 0, 0, .int 0), (.iaload, 1, 0, 0, .null), (.iastore, 1, 0, 0, .null)]) (L' := [some (.ref 93), some (.int x1), some (.int x2), some (.int (11280 + (12 * (q3.2.1 94 (Int32.toNatClampNeg 8))))), some (.int ((q3.2.1 94 (Int32.toNatClampNeg 0)) - 1)), none, none]) (st' := []) (w' := ((jup w9.1 94 (Int32.toNatClampNeg ((11280 + (12 * (q3.2.1 94 (Int32.toNatClampNeg 8)))) + 2)) (w9.1 94 (Int32.toNatClampNeg 0))), w9.2)) (g := [jin ((11280 + (12 * (q3.2.1 94 (Int32.toNatClampNeg 8)))) + 2) 21000, jin 0 21000]) (K := [(94, 20), (94, 20), (94, 20), (93, 10), (94, 20), (93, 10)]) (by decide +kernel) rfl rfl rfl hg10 (jk1 kz_94 (jk1 kz_94 (jk1 kz_94 (jk1 kz_93 (jk1 kz_94 (jk1 kz_93 jk0)))))) ?_
            refine jlw_c (P := fun w11 => Ev l G (jrm d_Model_visit 0 0) y_Model_visit (some (.int z.1), jR0, z.2) 0 0 0 0 105 [some (.ref 93), some (.int x1), some (.int x2), some (.int (11280 + (12 * (q3.2.1 94 (Int32.toNatClampNeg 8))))), some (.int ((q3.2.1 94 (Int32.toNatClampNeg 0)) - 1)), none, none] [] jR0 w11) h fun w11 h => ?_
            refine ev_seg (o := 10) (nL := 7) (q := 108) (xs := [(.iconst 3, 1, 0, 0, .int 3), (.istore 5, 2, 5, 0, .null)]) (L' := [some (.ref 93), some (.int x1), some (.int x2), some (.int (11280 + (12 * (q3.2.1 94 (Int32.toNatClampNeg 8))))), some (.int ((q3.2.1 94 (Int32.toNatClampNeg 0)) - 1)), some (.int 3), none]) (st' := []) (w' := w11) (g := []) (K := []) (by decide +kernel) rfl rfl rfl rfl jk0 ?_
            refine ev_mask [true, true, true, true, true, true, false] ?_
            exact t_Model_visit_h108 hG jfu _ _ _ _ _ _ _ h
          · replace h := jpos c46 h
            refine ev_seg (o := 10) (nL := 7) (q := 49) (xs := [(.iconst (-1), 1, 0, 0, .int (-1))]) (L' := [some (.ref 93), some (.int x1), some (.int x2), none, none, none, none]) (st' := [.int (-1)]) (w' := q3.2) (g := []) (K := []) (by decide +kernel) rfl rfl rfl rfl jk0 ?_
            cases h
            exact ev_iret (by decide +kernel) rfl rfl rfl rfl
def f_Model_saw (x1 : Int32) (x2 : Int32) (w : jW) : Option (Int32 × jW) :=
  if jal [jin 8 21000] = true then
  Option.bind (f_Model_isIn x1 0 ((w.1 94 (Int32.toNatClampNeg 8)) - 1) w) fun q2 =>
  if q2.1 = 0 then
    some ((-1), q2.2)
  else
    Option.bind (f_Model_isIn x2 0 4 q2.2) fun q3 =>
    if q3.1 = 0 then
      if x2 = 5 then
        if jal [jin ((11280 + (12 * x1)) + 8) 21000] = true then
        some ((q3.2.1 94 (Int32.toNatClampNeg ((11280 + (12 * x1)) + 8))), q3.2)
        else none
      else
        if x2 = 6 then
          if jal [jin ((11280 + (12 * x1)) + 2) 21000] = true then
          some ((q3.2.1 94 (Int32.toNatClampNeg ((11280 + (12 * x1)) + 2))), q3.2)
          else none
        else
          some ((-1), q3.2)
    else
      if jal [jin (((11280 + (12 * x1)) + 3) + x2) 21000] = true then
      some ((q3.2.1 94 (Int32.toNatClampNeg (((11280 + (12 * x1)) + 3) + x2))), q3.2)
      else none
  else none
set_option maxRecDepth 20000 in
theorem e_Model_saw {l : Launch} {G : jG} (hG : jX G) {x1 : Int32} {x2 : Int32} {w : jW} {z : (Int32 × jW)} (h : f_Model_saw x1 x2 w = some z) : Ct l G y_Model_saw d_Model_saw 0 0 [.ref 93, .int x1, .int x2] jR0 w (some (.int z.1), jR0, z.2) := by
  rw [f_Model_saw] at h
  refine Ct.of (L := [some (.ref 93), some (.int x1), some (.int x2), none]) (by decide) (Nat.le_of_ble_eq_true rfl) rfl ?_
  obtain ⟨hg1, h⟩ := jgd h
  refine ev_seg (o := 10) (nL := 4) (q := 11) (xs := [(.iload_n 1, 1, 1, 0, .null), (.iconst 0, 1, 0, 0, .int 0), (.aload_n 0, 1, 0, 0, .null), (.getfield 7, 3, 10, 0, .ref 20), (.bipush 8, 2, 0, 0, .int 8), (.iaload, 1, 0, 0, .null), (.iconst 1, 1, 0, 0, .int 1), (.isub, 1, 0, 0, .null)]) (L' := [some (.ref 93), some (.int x1), some (.int x2), none]) (st' := [.int ((w.1 94 (Int32.toNatClampNeg 8)) - 1), .int 0, .int x1]) (w' := w) (g := [jin 8 21000]) (K := [(94, 20), (94, 20), (93, 10)]) (by decide +kernel) rfl rfl rfl hg1 (jk1 kz_94 (jk1 kz_94 (jk1 kz_93 jk0))) ?_
  obtain ⟨q2, hq2, h⟩ := jbe h
  refine ev_callS (y2 := y_Model_isIn) (o := 10) (idx := 46) (d2 := d_Model_isIn) (n := 3) (mc2 := 0) (ms2 := 0) (As := [.int x1, .int 0, .int ((w.1 94 (Int32.toNatClampNeg 8)) - 1)]) (st := []) (res2 := (some (.int q2.1), jR0, q2.2)) (by decide +kernel) rfl lk_10_46 mo_Model_isIn ms_Model_isIn ⟨Nat.le_of_ble_eq_true rfl, Nat.le_of_ble_eq_true rfl⟩ rfl rfl (Nat.le_of_ble_eq_true rfl) ⟨Nat.le_refl _, Nat.le_refl _⟩ hG (e_Model_isIn hG hq2) ?_
  refine ev_if_ne (off := 5) (tgt := 19) (by decide +kernel) (by decide) (fun c10 => ?_) (fun c10 => ?_)
  · replace h := jneg c10 h
    refine ev_seg (o := 10) (nL := 4) (q := 31) (xs := [(.sipush 11280, 3, 0, 0, .int 11280), (.bipush 12, 2, 0, 0, .int 12), (.iload_n 1, 1, 1, 0, .null), (.imul, 1, 0, 0, .null), (.iadd, 1, 0, 0, .null), (.istore_n 3, 1, 3, 0, .null), (.iload_n 2, 1, 2, 0, .null), (.iconst 0, 1, 0, 0, .int 0), (.iconst 4, 1, 0, 0, .int 4)]) (L' := [some (.ref 93), some (.int x1), some (.int x2), some (.int (11280 + (12 * x1)))]) (st' := [.int 4, .int 0, .int x2]) (w' := q2.2) (g := []) (K := []) (by decide +kernel) rfl rfl rfl rfl jk0 ?_
    obtain ⟨q3, hq3, h⟩ := jbe h
    refine ev_callS (y2 := y_Model_isIn) (o := 10) (idx := 46) (d2 := d_Model_isIn) (n := 3) (mc2 := 0) (ms2 := 0) (As := [.int x2, .int 0, .int 4]) (st := []) (res2 := (some (.int q3.1), jR0, q3.2)) (by decide +kernel) rfl lk_10_46 mo_Model_isIn ms_Model_isIn ⟨Nat.le_of_ble_eq_true rfl, Nat.le_of_ble_eq_true rfl⟩ rfl rfl (Nat.le_of_ble_eq_true rfl) ⟨Nat.le_refl _, Nat.le_refl _⟩ hG (e_Model_isIn hG hq3) ?_
    refine ev_if_eq (off := 16) (tgt := 50) (by decide +kernel) (by decide) (fun c9 => ?_) (fun c9 => ?_)
    · replace h := jpos c9 h
      refine ev_seg (o := 10) (nL := 4) (q := 52) (xs := [(.iload_n 2, 1, 2, 0, .null), (.iconst 5, 1, 0, 0, .int 5)]) (L' := [some (.ref 93), some (.int x1), some (.int x2), some (.int (11280 + (12 * x1)))]) (st' := [.int 5, .int x2]) (w' := q3.2) (g := []) (K := []) (by decide +kernel) rfl rfl rfl rfl jk0 ?_
      refine ev_icmp_ne (off := 15) (tgt := 67) (by decide +kernel) (by decide) (fun c7 => ?_) (fun c7 => ?_)
      · replace h := jneg c7 h
        refine ev_seg (o := 10) (nL := 4) (q := 70) (xs := [(.iload_n 2, 1, 2, 0, .null), (.bipush 6, 2, 0, 0, .int 6)]) (L' := [some (.ref 93), some (.int x1), some (.int x2), some (.int (11280 + (12 * x1)))]) (st' := [.int 6, .int x2]) (w' := q3.2) (g := []) (K := []) (by decide +kernel) rfl rfl rfl rfl jk0 ?_
        refine ev_icmp_ne (off := 14) (tgt := 84) (by decide +kernel) (by decide) (fun c5 => ?_) (fun c5 => ?_)
        · replace h := jneg c5 h
          refine ev_seg (o := 10) (nL := 4) (q := 85) (xs := [(.iconst (-1), 1, 0, 0, .int (-1))]) (L' := [some (.ref 93), some (.int x1), some (.int x2), some (.int (11280 + (12 * x1)))]) (st' := [.int (-1)]) (w' := q3.2) (g := []) (K := []) (by decide +kernel) rfl rfl rfl rfl jk0 ?_
          cases h
          exact ev_iret (by decide +kernel) rfl rfl rfl rfl
        · replace h := jpos c5 h
          obtain ⟨hg4, h⟩ := jgd h
          refine ev_seg (o := 10) (nL := 4) (q := 85) (xs := [(.aload_n 0, 1, 0, 0, .null), (.getfield 7, 3, 10, 0, .ref 20), (.iload_n 3, 1, 3, 0, .null), (.iconst 2, 1, 0, 0, .int 2), (.iadd, 1, 0, 0, .null), (.iaload, 1, 0, 0, .null), (.goto 4, 3, 0, 0, .null)]) (L' := [some (.ref 93), some (.int x1), some (.int x2), some (.int (11280 + (12 * x1)))]) (st' := [.int (q3.2.1 94 (Int32.toNatClampNeg ((11280 + (12 * x1)) + 2)))]) (w' := q3.2) (g := [jin ((11280 + (12 * x1)) + 2) 21000]) (K := [(94, 20), (94, 20), (93, 10)]) (by decide +kernel) rfl rfl rfl hg4 (jk1 kz_94 (jk1 kz_94 (jk1 kz_93 jk0))) ?_
          cases h
          exact ev_iret (by decide +kernel) rfl rfl rfl rfl
      · replace h := jpos c7 h
        obtain ⟨hg6, h⟩ := jgd h
        refine ev_seg (o := 10) (nL := 4) (q := 85) (xs := [(.aload_n 0, 1, 0, 0, .null), (.getfield 7, 3, 10, 0, .ref 20), (.iload_n 3, 1, 3, 0, .null), (.bipush 8, 2, 0, 0, .int 8), (.iadd, 1, 0, 0, .null), (.iaload, 1, 0, 0, .null), (.goto 21, 3, 0, 0, .null)]) (L' := [some (.ref 93), some (.int x1), some (.int x2), some (.int (11280 + (12 * x1)))]) (st' := [.int (q3.2.1 94 (Int32.toNatClampNeg ((11280 + (12 * x1)) + 8)))]) (w' := q3.2) (g := [jin ((11280 + (12 * x1)) + 8) 21000]) (K := [(94, 20), (94, 20), (93, 10)]) (by decide +kernel) rfl rfl rfl hg6 (jk1 kz_94 (jk1 kz_94 (jk1 kz_93 jk0))) ?_
        cases h
        exact ev_iret (by decide +kernel) rfl rfl rfl rfl
    · replace h := jneg c9 h
      obtain ⟨hg8, h⟩ := jgd h
      refine ev_seg (o := 10) (nL := 4) (q := 85) (xs := [(.aload_n 0, 1, 0, 0, .null), (.getfield 7, 3, 10, 0, .ref 20), (.iload_n 3, 1, 3, 0, .null), (.iconst 3, 1, 0, 0, .int 3), (.iadd, 1, 0, 0, .null), (.iload_n 2, 1, 2, 0, .null), (.iadd, 1, 0, 0, .null), (.iaload, 1, 0, 0, .null), (.goto 38, 3, 0, 0, .null)]) (L' := [some (.ref 93), some (.int x1), some (.int x2), some (.int (11280 + (12 * x1)))]) (st' := [.int (q3.2.1 94 (Int32.toNatClampNeg (((11280 + (12 * x1)) + 3) + x2)))]) (w' := q3.2) (g := [jin (((11280 + (12 * x1)) + 3) + x2) 21000]) (K := [(94, 20), (94, 20), (93, 10)]) (by decide +kernel) rfl rfl rfl hg8 (jk1 kz_94 (jk1 kz_94 (jk1 kz_93 jk0))) ?_
      cases h
      exact ev_iret (by decide +kernel) rfl rfl rfl rfl
  · replace h := jpos c10 h
    refine ev_seg (o := 10) (nL := 4) (q := 18) (xs := [(.iconst (-1), 1, 0, 0, .int (-1))]) (L' := [some (.ref 93), some (.int x1), some (.int x2), none]) (st' := [.int (-1)]) (w' := q2.2) (g := []) (K := []) (by decide +kernel) rfl rfl rfl rfl jk0 ?_
    cases h
    exact ev_iret (by decide +kernel) rfl rfl rfl rfl
def f_Model_isCloudy_h2 : Nat → Int32 → Int32 → Int32 → jW → Option (Int32 × jW)
  | 0, _, _, _, _ => none
  | n + 1, x1, x2, x3, w =>
  if jal [jin 12 21000] = true then
  if x3 < (w.1 94 (Int32.toNatClampNeg 12)) then
    if jal [jin (20760 + (2 * x3)) 21000] = true then
    if (w.1 94 (Int32.toNatClampNeg (20760 + (2 * x3)))) = x1 then
      if jal [jin ((20760 + (2 * x3)) + 1) 21000] = true then
      if (w.1 94 (Int32.toNatClampNeg ((20760 + (2 * x3)) + 1))) = x2 then
        some (1, w)
      else
        (f_Model_isCloudy_h2 n) x1 x2 (x3 + 1) w
      else none
    else
      (f_Model_isCloudy_h2 n) x1 x2 (x3 + 1) w
    else none
  else
    some (0, w)
  else none
set_option maxRecDepth 20000 in
theorem t_Model_isCloudy_h2 {l : Launch} {G : jG} (hG : jX G) : ∀ (n : Nat) (x1 : Int32) (x2 : Int32) (x3 : Int32) (w : jW) (z : (Int32 × jW)), f_Model_isCloudy_h2 n x1 x2 x3 w = some z → Ev l G (jrm d_Model_isCloudy 0 0) y_Model_isCloudy (some (.int z.1), jR0, z.2) 0 0 0 0 2 [some (.ref 93), some (.int x1), some (.int x2), some (.int x3)] [] jR0 w := by
  intro n
  induction n with
  | zero => intro x1 x2 x3 w z h; simp only [f_Model_isCloudy_h2] at h; cases h
  | succ n ih =>
    intro x1 x2 x3 w z h
    rw [f_Model_isCloudy_h2] at h
    obtain ⟨hg1, h⟩ := jgd h
    refine ev_seg (o := 10) (nL := 4) (q := 10) (xs := [(.iload_n 3, 1, 3, 0, .null), (.aload_n 0, 1, 0, 0, .null), (.getfield 7, 3, 10, 0, .ref 20), (.bipush 12, 2, 0, 0, .int 12), (.iaload, 1, 0, 0, .null)]) (L' := [some (.ref 93), some (.int x1), some (.int x2), some (.int x3)]) (st' := [.int (w.1 94 (Int32.toNatClampNeg 12)), .int x3]) (w' := w) (g := [jin 12 21000]) (K := [(94, 20), (94, 20), (93, 10)]) (by decide +kernel) rfl rfl rfl hg1 (jk1 kz_94 (jk1 kz_94 (jk1 kz_93 jk0))) ?_
    refine ev_icmp_ge (off := 45) (tgt := 55) (by decide +kernel) (by decide) (fun c6 => ?_) (fun c6 => ?_)
    · replace h := jneg c6 h
      refine ev_seg (o := 10) (nL := 4) (q := 56) (xs := [(.iconst 0, 1, 0, 0, .int 0)]) (L' := [some (.ref 93), some (.int x1), some (.int x2), some (.int x3)]) (st' := [.int 0]) (w' := w) (g := []) (K := []) (by decide +kernel) rfl rfl rfl rfl jk0 ?_
      cases h
      exact ev_zret (by decide +kernel) rfl rfl rfl rfl rfl
    · replace h := jpos c6 h
      obtain ⟨hg2, h⟩ := jgd h
      refine ev_seg (o := 10) (nL := 4) (q := 26) (xs := [(.aload_n 0, 1, 0, 0, .null), (.getfield 7, 3, 10, 0, .ref 20), (.sipush 20760, 3, 0, 0, .int 20760), (.iconst 2, 1, 0, 0, .int 2), (.iload_n 3, 1, 3, 0, .null), (.imul, 1, 0, 0, .null), (.iadd, 1, 0, 0, .null), (.iaload, 1, 0, 0, .null), (.iload_n 1, 1, 1, 0, .null)]) (L' := [some (.ref 93), some (.int x1), some (.int x2), some (.int x3)]) (st' := [.int x1, .int (w.1 94 (Int32.toNatClampNeg (20760 + (2 * x3))))]) (w' := w) (g := [jin (20760 + (2 * x3)) 21000]) (K := [(94, 20), (94, 20), (93, 10)]) (by decide +kernel) rfl rfl rfl hg2 (jk1 kz_94 (jk1 kz_94 (jk1 kz_93 jk0))) ?_
      refine ev_icmp_ne (off := 23) (tgt := 49) (by decide +kernel) (by decide) (fun c5 => ?_) (fun c5 => ?_)
      · replace h := jneg c5 h
        refine ev_seg (o := 10) (nL := 4) (q := 2) (xs := [(.iinc 3 1, 3, 3, 0, .int 1), (.goto (-50), 3, 0, 0, .null)]) (L' := [some (.ref 93), some (.int x1), some (.int x2), some (.int (x3 + 1))]) (st' := []) (w' := w) (g := []) (K := []) (by decide +kernel) rfl rfl rfl rfl jk0 ?_
        refine ev_mask [true, true, true, true] ?_
        exact ih _ _ _ _ _ h
      · replace h := jpos c5 h
        obtain ⟨hg3, h⟩ := jgd h
        refine ev_seg (o := 10) (nL := 4) (q := 44) (xs := [(.aload_n 0, 1, 0, 0, .null), (.getfield 7, 3, 10, 0, .ref 20), (.sipush 20760, 3, 0, 0, .int 20760), (.iconst 2, 1, 0, 0, .int 2), (.iload_n 3, 1, 3, 0, .null), (.imul, 1, 0, 0, .null), (.iadd, 1, 0, 0, .null), (.iconst 1, 1, 0, 0, .int 1), (.iadd, 1, 0, 0, .null), (.iaload, 1, 0, 0, .null), (.iload_n 2, 1, 2, 0, .null)]) (L' := [some (.ref 93), some (.int x1), some (.int x2), some (.int x3)]) (st' := [.int x2, .int (w.1 94 (Int32.toNatClampNeg ((20760 + (2 * x3)) + 1)))]) (w' := w) (g := [jin ((20760 + (2 * x3)) + 1) 21000]) (K := [(94, 20), (94, 20), (93, 10)]) (by decide +kernel) rfl rfl rfl hg3 (jk1 kz_94 (jk1 kz_94 (jk1 kz_93 jk0))) ?_
        refine ev_icmp_ne (off := 5) (tgt := 49) (by decide +kernel) (by decide) (fun c4 => ?_) (fun c4 => ?_)
        · replace h := jneg c4 h
          refine ev_seg (o := 10) (nL := 4) (q := 2) (xs := [(.iinc 3 1, 3, 3, 0, .int 1), (.goto (-50), 3, 0, 0, .null)]) (L' := [some (.ref 93), some (.int x1), some (.int x2), some (.int (x3 + 1))]) (st' := []) (w' := w) (g := []) (K := []) (by decide +kernel) rfl rfl rfl rfl jk0 ?_
          refine ev_mask [true, true, true, true] ?_
          exact ih _ _ _ _ _ h
        · replace h := jpos c4 h
          refine ev_seg (o := 10) (nL := 4) (q := 48) (xs := [(.iconst 1, 1, 0, 0, .int 1)]) (L' := [some (.ref 93), some (.int x1), some (.int x2), some (.int x3)]) (st' := [.int 1]) (w' := w) (g := []) (K := []) (by decide +kernel) rfl rfl rfl rfl jk0 ?_
          cases h
          exact ev_zret (by decide +kernel) rfl rfl rfl rfl rfl
def f_Model_isCloudy (x1 : Int32) (x2 : Int32) (w : jW) : Option (Int32 × jW) :=
  f_Model_isCloudy_h2 jfu x1 x2 0 w
set_option maxRecDepth 20000 in
theorem e_Model_isCloudy {l : Launch} {G : jG} (hG : jX G) {x1 : Int32} {x2 : Int32} {w : jW} {z : (Int32 × jW)} (h : f_Model_isCloudy x1 x2 w = some z) : Ct l G y_Model_isCloudy d_Model_isCloudy 0 0 [.ref 93, .int x1, .int x2] jR0 w (some (.int z.1), jR0, z.2) := by
  rw [f_Model_isCloudy] at h
  refine Ct.of (L := [some (.ref 93), some (.int x1), some (.int x2), none]) (by decide) (Nat.le_of_ble_eq_true rfl) rfl ?_
  refine ev_seg (o := 10) (nL := 4) (q := 2) (xs := [(.iconst 0, 1, 0, 0, .int 0), (.istore_n 3, 1, 3, 0, .null)]) (L' := [some (.ref 93), some (.int x1), some (.int x2), some (.int 0)]) (st' := []) (w' := w) (g := []) (K := []) (by decide +kernel) rfl rfl rfl rfl jk0 ?_
  refine ev_mask [true, true, true, true] ?_
  exact t_Model_isCloudy_h2 hG jfu _ _ _ _ _ h
def f_Model_cloud (x1 : Int32) (x2 : Int32) (w : jW) : Option (Int32 × jW) :=
  Option.bind (f_Model_isSite x1 w) fun q1 =>
  if q1.1 = 0 then
    some ((-1), q1.2)
  else
    Option.bind (f_Model_isDay x2 q1.2) fun q2 =>
    if q2.1 = 0 then
      some ((-1), q2.2)
    else
      Option.bind (f_Model_isCloudy x1 x2 q2.2) fun q3 =>
      if q3.1 = 0 then
        if jal [jin 12 21000] = true then
        if (q3.2.1 94 (Int32.toNatClampNeg 12)) = 60 then
          some ((-1), q3.2)
        else
          if jal [jin (20760 + (2 * (q3.2.1 94 (Int32.toNatClampNeg 12)))) 21000, jin 12 21000] = true then
          jlw ((jup q3.2.1 94 (Int32.toNatClampNeg (20760 + (2 * (q3.2.1 94 (Int32.toNatClampNeg 12))))) x1), q3.2.2) fun w6 =>
          if jal [jin ((20760 + (2 * (w6.1 94 (Int32.toNatClampNeg 12)))) + 1) 21000, jin 12 21000] = true then
          jlw ((jup w6.1 94 (Int32.toNatClampNeg ((20760 + (2 * (w6.1 94 (Int32.toNatClampNeg 12)))) + 1)) x2), w6.2) fun w8 =>
          if jal [jin 12 21000, jin 12 21000] = true then
          jlw ((jup w8.1 94 (Int32.toNatClampNeg 12) ((w8.1 94 (Int32.toNatClampNeg 12)) + 1)), w8.2) fun w10 =>
          if jal [jin 12 21000] = true then
          some ((w10.1 94 (Int32.toNatClampNeg 12)), w10)
          else none else none else none else none
        else none
      else
        some ((-1), q3.2)
set_option maxRecDepth 20000 in
theorem e_Model_cloud {l : Launch} {G : jG} (hG : jX G) {x1 : Int32} {x2 : Int32} {w : jW} {z : (Int32 × jW)} (h : f_Model_cloud x1 x2 w = some z) : Ct l G y_Model_cloud d_Model_cloud 0 0 [.ref 93, .int x1, .int x2] jR0 w (some (.int z.1), jR0, z.2) := by
  rw [f_Model_cloud] at h
  refine Ct.of (L := [some (.ref 93), some (.int x1), some (.int x2)]) (by decide) (Nat.le_of_ble_eq_true rfl) rfl ?_
  refine ev_seg (o := 10) (nL := 3) (q := 2) (xs := [(.aload_n 0, 1, 0, 0, .null), (.iload_n 1, 1, 1, 0, .null)]) (L' := [some (.ref 93), some (.int x1), some (.int x2)]) (st' := [.int x1, .ref 93]) (w' := w) (g := []) (K := []) (by decide +kernel) rfl rfl rfl rfl jk0 ?_
  obtain ⟨q1, hq1, h⟩ := jbe h
  refine ev_callV (ci := 10) (a := 93) (y2 := y_Model_isSite) (o := 10) (idx := 50) (d2 := d_Model_isSite) (n := 1) (mc2 := 0) (ms2 := 0) (As := [.int x1]) (st := []) (res2 := (some (.int q1.1), jR0, q1.2)) (by decide +kernel) rfl lk_10_50 mo_Model_isSite mv_Model_isSite ⟨Nat.le_of_ble_eq_true rfl, Nat.le_of_ble_eq_true rfl⟩ rfl rfl kz_93 (by decide) rfl (Nat.le_of_ble_eq_true rfl) ⟨Nat.le_refl _, Nat.le_refl _⟩ hG (e_Model_isSite hG hq1) ?_
  refine ev_if_eq (off := 31) (tgt := 36) (by decide +kernel) (by decide) (fun c15 => ?_) (fun c15 => ?_)
  · replace h := jpos c15 h
    refine ev_seg (o := 10) (nL := 3) (q := 37) (xs := [(.iconst (-1), 1, 0, 0, .int (-1))]) (L' := [some (.ref 93), some (.int x1), some (.int x2)]) (st' := [.int (-1)]) (w' := q1.2) (g := []) (K := []) (by decide +kernel) rfl rfl rfl rfl jk0 ?_
    cases h
    exact ev_iret (by decide +kernel) rfl rfl rfl rfl
  · replace h := jneg c15 h
    refine ev_seg (o := 10) (nL := 3) (q := 9) (xs := [(.iload_n 2, 1, 2, 0, .null)]) (L' := [some (.ref 93), some (.int x1), some (.int x2)]) (st' := [.int x2]) (w' := q1.2) (g := []) (K := []) (by decide +kernel) rfl rfl rfl rfl jk0 ?_
    obtain ⟨q2, hq2, h⟩ := jbe h
    refine ev_callS (y2 := y_Model_isDay) (o := 10) (idx := 75) (d2 := d_Model_isDay) (n := 1) (mc2 := 0) (ms2 := 0) (As := [.int x2]) (st := []) (res2 := (some (.int q2.1), jR0, q2.2)) (by decide +kernel) rfl lk_10_75 mo_Model_isDay ms_Model_isDay ⟨Nat.le_of_ble_eq_true rfl, Nat.le_of_ble_eq_true rfl⟩ rfl rfl (Nat.le_of_ble_eq_true rfl) ⟨Nat.le_refl _, Nat.le_refl _⟩ hG (e_Model_isDay hG hq2) ?_
    refine ev_if_eq (off := 24) (tgt := 36) (by decide +kernel) (by decide) (fun c14 => ?_) (fun c14 => ?_)
    · replace h := jpos c14 h
      refine ev_seg (o := 10) (nL := 3) (q := 37) (xs := [(.iconst (-1), 1, 0, 0, .int (-1))]) (L' := [some (.ref 93), some (.int x1), some (.int x2)]) (st' := [.int (-1)]) (w' := q2.2) (g := []) (K := []) (by decide +kernel) rfl rfl rfl rfl jk0 ?_
      cases h
      exact ev_iret (by decide +kernel) rfl rfl rfl rfl
    · replace h := jneg c14 h
      refine ev_seg (o := 10) (nL := 3) (q := 18) (xs := [(.aload_n 0, 1, 0, 0, .null), (.iload_n 1, 1, 1, 0, .null), (.iload_n 2, 1, 2, 0, .null)]) (L' := [some (.ref 93), some (.int x1), some (.int x2)]) (st' := [.int x2, .int x1, .ref 93]) (w' := q2.2) (g := []) (K := []) (by decide +kernel) rfl rfl rfl rfl jk0 ?_
      obtain ⟨q3, hq3, h⟩ := jbe h
      refine ev_callV (ci := 10) (a := 93) (y2 := y_Model_isCloudy) (o := 10) (idx := 274) (d2 := d_Model_isCloudy) (n := 2) (mc2 := 0) (ms2 := 0) (As := [.int x1, .int x2]) (st := []) (res2 := (some (.int q3.1), jR0, q3.2)) (by decide +kernel) rfl lk_10_274 mo_Model_isCloudy mv_Model_isCloudy ⟨Nat.le_of_ble_eq_true rfl, Nat.le_of_ble_eq_true rfl⟩ rfl rfl kz_93 (by decide) rfl (Nat.le_of_ble_eq_true rfl) ⟨Nat.le_refl _, Nat.le_refl _⟩ hG (e_Model_isCloudy hG hq3) ?_
      refine ev_if_ne (off := 15) (tgt := 36) (by decide +kernel) (by decide) (fun c13 => ?_) (fun c13 => ?_)
      · replace h := jneg c13 h
        refine ev_seg (o := 10) (nL := 3) (q := 37) (xs := [(.iconst (-1), 1, 0, 0, .int (-1))]) (L' := [some (.ref 93), some (.int x1), some (.int x2)]) (st' := [.int (-1)]) (w' := q3.2) (g := []) (K := []) (by decide +kernel) rfl rfl rfl rfl jk0 ?_
        cases h
        exact ev_iret (by decide +kernel) rfl rfl rfl rfl
      · replace h := jpos c13 h
        obtain ⟨hg4, h⟩ := jgd h
        refine ev_seg (o := 10) (nL := 3) (q := 33) (xs := [(.aload_n 0, 1, 0, 0, .null), (.getfield 7, 3, 10, 0, .ref 20), (.bipush 12, 2, 0, 0, .int 12), (.iaload, 1, 0, 0, .null), (.bipush 60, 2, 0, 0, .int 60)]) (L' := [some (.ref 93), some (.int x1), some (.int x2)]) (st' := [.int 60, .int (q3.2.1 94 (Int32.toNatClampNeg 12))]) (w' := q3.2) (g := [jin 12 21000]) (K := [(94, 20), (94, 20), (93, 10)]) (by decide +kernel) rfl rfl rfl hg4 (jk1 kz_94 (jk1 kz_94 (jk1 kz_93 jk0))) ?_
        refine ev_icmp_ne (off := 5) (tgt := 38) (by decide +kernel) (by decide) (fun c12 => ?_) (fun c12 => ?_)
        · replace h := jneg c12 h
          obtain ⟨hg5, h⟩ := jgd h
          refine ev_seg (o := 10) (nL := 3) (q := 57) (xs := [(.aload_n 0, 1, 0, 0, .null), (.getfield 7, 3, 10, 0, .ref 20), (.sipush 20760, 3, 0, 0, .int 20760), (.iconst 2, 1, 0, 0, .int 2), (.aload_n 0, 1, 0, 0, .null), (.getfield 7, 3, 10, 0, .ref 20), (.bipush 12, 2, 0, 0, .int 12), (.iaload, 1, 0, 0, .null), (.imul, 1, 0, 0, .null), (.iadd, 1, 0, 0, .null), (.iload_n 1, 1, 1, 0, .null), (.iastore, 1, 0, 0, .null)]) (L' := [some (.ref 93), some (.int x1), some (.int x2)]) (st' := []) (w' := ((jup q3.2.1 94 (Int32.toNatClampNeg (20760 + (2 * (q3.2.1 94 (Int32.toNatClampNeg 12))))) x1), q3.2.2)) (g := [jin (20760 + (2 * (q3.2.1 94 (Int32.toNatClampNeg 12)))) 21000, jin 12 21000]) (K := [(94, 20), (94, 20), (94, 20), (93, 10), (94, 20), (93, 10)]) (by decide +kernel) rfl rfl rfl hg5 (jk1 kz_94 (jk1 kz_94 (jk1 kz_94 (jk1 kz_93 (jk1 kz_94 (jk1 kz_93 jk0)))))) ?_
          refine jlw_c (P := fun w6 => Ev l G (jrm d_Model_cloud 0 0) y_Model_cloud (some (.int z.1), jR0, z.2) 0 0 0 0 57 [some (.ref 93), some (.int x1), some (.int x2)] [] jR0 w6) h fun w6 h => ?_
          obtain ⟨hg7, h⟩ := jgd h
          refine ev_seg (o := 10) (nL := 3) (q := 78) (xs := [(.aload_n 0, 1, 0, 0, .null), (.getfield 7, 3, 10, 0, .ref 20), (.sipush 20760, 3, 0, 0, .int 20760), (.iconst 2, 1, 0, 0, .int 2), (.aload_n 0, 1, 0, 0, .null), (.getfield 7, 3, 10, 0, .ref 20), (.bipush 12, 2, 0, 0, .int 12), (.iaload, 1, 0, 0, .null), (.imul, 1, 0, 0, .null), (.iadd, 1, 0, 0, .null), (.iconst 1, 1, 0, 0, .int 1), (.iadd, 1, 0, 0, .null), (.iload_n 2, 1, 2, 0, .null), (.iastore, 1, 0, 0, .null)]) (L' := [some (.ref 93), some (.int x1), some (.int x2)]) (st' := []) (w' := ((jup w6.1 94 (Int32.toNatClampNeg ((20760 + (2 * (w6.1 94 (Int32.toNatClampNeg 12)))) + 1)) x2), w6.2)) (g := [jin ((20760 + (2 * (w6.1 94 (Int32.toNatClampNeg 12)))) + 1) 21000, jin 12 21000]) (K := [(94, 20), (94, 20), (94, 20), (93, 10), (94, 20), (93, 10)]) (by decide +kernel) rfl rfl rfl hg7 (jk1 kz_94 (jk1 kz_94 (jk1 kz_94 (jk1 kz_93 (jk1 kz_94 (jk1 kz_93 jk0)))))) ?_
          refine jlw_c (P := fun w8 => Ev l G (jrm d_Model_cloud 0 0) y_Model_cloud (some (.int z.1), jR0, z.2) 0 0 0 0 78 [some (.ref 93), some (.int x1), some (.int x2)] [] jR0 w8) h fun w8 h => ?_
          obtain ⟨hg9, h⟩ := jgd h
          refine ev_seg (o := 10) (nL := 3) (q := 89) (xs := [(.aload_n 0, 1, 0, 0, .null), (.getfield 7, 3, 10, 0, .ref 20), (.bipush 12, 2, 0, 0, .int 12), (.dup2, 1, 0, 0, .null), (.iaload, 1, 0, 0, .null), (.iconst 1, 1, 0, 0, .int 1), (.iadd, 1, 0, 0, .null), (.iastore, 1, 0, 0, .null)]) (L' := [some (.ref 93), some (.int x1), some (.int x2)]) (st' := []) (w' := ((jup w8.1 94 (Int32.toNatClampNeg 12) ((w8.1 94 (Int32.toNatClampNeg 12)) + 1)), w8.2)) (g := [jin 12 21000, jin 12 21000]) (K := [(94, 20), (94, 20), (94, 20), (93, 10)]) (by decide +kernel) rfl rfl rfl hg9 (jk1 kz_94 (jk1 kz_94 (jk1 kz_94 (jk1 kz_93 jk0)))) ?_
          refine jlw_c (P := fun w10 => Ev l G (jrm d_Model_cloud 0 0) y_Model_cloud (some (.int z.1), jR0, z.2) 0 0 0 0 89 [some (.ref 93), some (.int x1), some (.int x2)] [] jR0 w10) h fun w10 h => ?_
          obtain ⟨hg11, h⟩ := jgd h
          refine ev_seg (o := 10) (nL := 3) (q := 96) (xs := [(.aload_n 0, 1, 0, 0, .null), (.getfield 7, 3, 10, 0, .ref 20), (.bipush 12, 2, 0, 0, .int 12), (.iaload, 1, 0, 0, .null)]) (L' := [some (.ref 93), some (.int x1), some (.int x2)]) (st' := [.int (w10.1 94 (Int32.toNatClampNeg 12))]) (w' := w10) (g := [jin 12 21000]) (K := [(94, 20), (94, 20), (93, 10)]) (by decide +kernel) rfl rfl rfl hg11 (jk1 kz_94 (jk1 kz_94 (jk1 kz_93 jk0))) ?_
          cases h
          exact ev_iret (by decide +kernel) rfl rfl rfl rfl
        · replace h := jpos c12 h
          refine ev_seg (o := 10) (nL := 3) (q := 37) (xs := [(.iconst (-1), 1, 0, 0, .int (-1))]) (L' := [some (.ref 93), some (.int x1), some (.int x2)]) (st' := [.int (-1)]) (w' := q3.2) (g := []) (K := []) (by decide +kernel) rfl rfl rfl rfl jk0 ?_
          cases h
          exact ev_iret (by decide +kernel) rfl rfl rfl rfl
def f_Model_picture_h59 : Nat → Int32 → Int32 → Int32 → jW → Option (Int32 × jW)
  | 0, _, _, _, _ => none
  | n + 1, x1, x2, x3, w =>
  if jal [jin 3 21000] = true then
  if x3 < (w.1 94 (Int32.toNatClampNeg 3)) then
    if jal [jin 0 21000] = true then
    Option.bind (f_Model_whereOf x3 ((w.1 94 (Int32.toNatClampNeg 0)) - 1) w) fun q17 =>
    if q17.1 = x1 then
      Option.bind (f_Model_thingAt x3 1 q17.2) fun q18 =>
      if jal [jin 16 21000] = true then
      if q18.1 < (q18.2.1 94 (Int32.toNatClampNeg 16)) then
        (f_Model_picture_h59 n) x1 (x2 + 0) (x3 + 1) q18.2
      else
        (f_Model_picture_h59 n) x1 (x2 + 1) (x3 + 1) q18.2
      else none
    else
      (f_Model_picture_h59 n) x1 (x2 + 0) (x3 + 1) q17.2
    else none
  else
    if jal [jin (12480 + (4 * (w.1 94 (Int32.toNatClampNeg 9)))) 21000, jin 9 21000] = true then
    jlw ((jup w.1 94 (Int32.toNatClampNeg (12480 + (4 * (w.1 94 (Int32.toNatClampNeg 9))))) x1), w.2) fun w9 =>
    if jal [jin ((12480 + (4 * (w.1 94 (Int32.toNatClampNeg 9)))) + 1) 21000, jin 0 21000] = true then
    jlw ((jup w9.1 94 (Int32.toNatClampNeg ((12480 + (4 * (w.1 94 (Int32.toNatClampNeg 9)))) + 1)) (w9.1 94 (Int32.toNatClampNeg 0))), w9.2) fun w11 =>
    if jal [jin ((12480 + (4 * (w.1 94 (Int32.toNatClampNeg 9)))) + 2) 21000] = true then
    jlw ((jup w11.1 94 (Int32.toNatClampNeg ((12480 + (4 * (w.1 94 (Int32.toNatClampNeg 9)))) + 2)) x2), w11.2) fun w13 =>
    if jal [jin 9 21000, jin 9 21000] = true then
    jlw ((jup w13.1 94 (Int32.toNatClampNeg 9) ((w13.1 94 (Int32.toNatClampNeg 9)) + 1)), w13.2) fun w15 =>
    some (x2, w15)
    else none else none else none else none
  else none
set_option maxRecDepth 20000 in
theorem t_Model_picture_h59 {l : Launch} {G : jG} (hG : jX G) : ∀ (n : Nat) (x1 : Int32) (x2 : Int32) (x3 : Int32) (w : jW) (z : (Int32 × jW)), f_Model_picture_h59 n x1 x2 x3 w = some z → Ev l G (jrm d_Model_picture 0 0) y_Model_picture (some (.int z.1), jR0, z.2) 0 0 0 0 59 [some (.ref 93), some (.int x1), some (.int x2), some (.int x3)] [] jR0 w := by
  intro n
  induction n with
  | zero => intro x1 x2 x3 w z h; simp only [f_Model_picture_h59] at h; cases h
  | succ n ih =>
    intro x1 x2 x3 w z h
    rw [f_Model_picture_h59] at h
    obtain ⟨hg7, h⟩ := jgd h
    refine ev_seg (o := 10) (nL := 4) (q := 66) (xs := [(.iload_n 3, 1, 3, 0, .null), (.aload_n 0, 1, 0, 0, .null), (.getfield 7, 3, 10, 0, .ref 20), (.iconst 3, 1, 0, 0, .int 3), (.iaload, 1, 0, 0, .null)]) (L' := [some (.ref 93), some (.int x1), some (.int x2), some (.int x3)]) (st' := [.int (w.1 94 (Int32.toNatClampNeg 3)), .int x3]) (w' := w) (g := [jin 3 21000]) (K := [(94, 20), (94, 20), (93, 10)]) (by decide +kernel) rfl rfl rfl hg7 (jk1 kz_94 (jk1 kz_94 (jk1 kz_93 jk0))) ?_
    refine ev_icmp_ge (off := 50) (tgt := 116) (by decide +kernel) (by decide) (fun c22 => ?_) (fun c22 => ?_)
    · replace h := jneg c22 h
      obtain ⟨hg8, h⟩ := jgd h
      refine ev_seg (o := 10) (nL := 4) (q := 137) (xs := [(.sipush 12480, 3, 0, 0, .int 12480), (.iconst 4, 1, 0, 0, .int 4), (.aload_n 0, 1, 0, 0, .null), (.getfield 7, 3, 10, 0, .ref 20), (.bipush 9, 2, 0, 0, .int 9), (.iaload, 1, 0, 0, .null), (.imul, 1, 0, 0, .null), (.iadd, 1, 0, 0, .null), (.istore_n 3, 1, 3, 0, .null), (.aload_n 0, 1, 0, 0, .null), (.getfield 7, 3, 10, 0, .ref 20), (.iload_n 3, 1, 3, 0, .null), (.iload_n 1, 1, 1, 0, .null), (.iastore, 1, 0, 0, .null)]) (L' := [some (.ref 93), some (.int x1), some (.int x2), some (.int (12480 + (4 * (w.1 94 (Int32.toNatClampNeg 9)))))]) (st' := []) (w' := ((jup w.1 94 (Int32.toNatClampNeg (12480 + (4 * (w.1 94 (Int32.toNatClampNeg 9))))) x1), w.2)) (g := [jin (12480 + (4 * (w.1 94 (Int32.toNatClampNeg 9)))) 21000, jin 9 21000]) (K := [(94, 20), (94, 20), (93, 10), (94, 20), (94, 20), (93, 10)]) (by decide +kernel) rfl rfl rfl hg8 (jk1 kz_94 (jk1 kz_94 (jk1 kz_93 (jk1 kz_94 (jk1 kz_94 (jk1 kz_93 jk0)))))) ?_
      refine jlw_c (P := fun w9 => Ev l G (jrm d_Model_picture 0 0) y_Model_picture (some (.int z.1), jR0, z.2) 0 0 0 0 137 [some (.ref 93), some (.int x1), some (.int x2), some (.int (12480 + (4 * (w.1 94 (Int32.toNatClampNeg 9)))))] [] jR0 w9) h fun w9 h => ?_
      obtain ⟨hg10, h⟩ := jgd h
      refine ev_seg (o := 10) (nL := 4) (q := 151) (xs := [(.aload_n 0, 1, 0, 0, .null), (.getfield 7, 3, 10, 0, .ref 20), (.iload_n 3, 1, 3, 0, .null), (.iconst 1, 1, 0, 0, .int 1), (.iadd, 1, 0, 0, .null), (.aload_n 0, 1, 0, 0, .null), (.getfield 7, 3, 10, 0, .ref 20), (.iconst 0, 1, 0, 0, .int 0), (.iaload, 1, 0, 0, .null), (.iastore, 1, 0, 0, .null)]) (L' := [some (.ref 93), some (.int x1), some (.int x2), some (.int (12480 + (4 * (w.1 94 (Int32.toNatClampNeg 9)))))]) (st' := []) (w' := ((jup w9.1 94 (Int32.toNatClampNeg ((12480 + (4 * (w.1 94 (Int32.toNatClampNeg 9)))) + 1)) (w9.1 94 (Int32.toNatClampNeg 0))), w9.2)) (g := [jin ((12480 + (4 * (w.1 94 (Int32.toNatClampNeg 9)))) + 1) 21000, jin 0 21000]) (K := [(94, 20), (94, 20), (94, 20), (93, 10), (94, 20), (93, 10)]) (by decide +kernel) rfl rfl rfl hg10 (jk1 kz_94 (jk1 kz_94 (jk1 kz_94 (jk1 kz_93 (jk1 kz_94 (jk1 kz_93 jk0)))))) ?_
      refine jlw_c (P := fun w11 => Ev l G (jrm d_Model_picture 0 0) y_Model_picture (some (.int z.1), jR0, z.2) 0 0 0 0 151 [some (.ref 93), some (.int x1), some (.int x2), some (.int (12480 + (4 * (w.1 94 (Int32.toNatClampNeg 9)))))] [] jR0 w11) h fun w11 h => ?_
      obtain ⟨hg12, h⟩ := jgd h
      refine ev_seg (o := 10) (nL := 4) (q := 160) (xs := [(.aload_n 0, 1, 0, 0, .null), (.getfield 7, 3, 10, 0, .ref 20), (.iload_n 3, 1, 3, 0, .null), (.iconst 2, 1, 0, 0, .int 2), (.iadd, 1, 0, 0, .null), (.iload_n 2, 1, 2, 0, .null), (.iastore, 1, 0, 0, .null)]) (L' := [some (.ref 93), some (.int x1), some (.int x2), some (.int (12480 + (4 * (w.1 94 (Int32.toNatClampNeg 9)))))]) (st' := []) (w' := ((jup w11.1 94 (Int32.toNatClampNeg ((12480 + (4 * (w.1 94 (Int32.toNatClampNeg 9)))) + 2)) x2), w11.2)) (g := [jin ((12480 + (4 * (w.1 94 (Int32.toNatClampNeg 9)))) + 2) 21000]) (K := [(94, 20), (94, 20), (93, 10)]) (by decide +kernel) rfl rfl rfl hg12 (jk1 kz_94 (jk1 kz_94 (jk1 kz_93 jk0))) ?_
      refine jlw_c (P := fun w13 => Ev l G (jrm d_Model_picture 0 0) y_Model_picture (some (.int z.1), jR0, z.2) 0 0 0 0 160 [some (.ref 93), some (.int x1), some (.int x2), some (.int (12480 + (4 * (w.1 94 (Int32.toNatClampNeg 9)))))] [] jR0 w13) h fun w13 h => ?_
      obtain ⟨hg14, h⟩ := jgd h
      refine ev_seg (o := 10) (nL := 4) (q := 171) (xs := [(.aload_n 0, 1, 0, 0, .null), (.getfield 7, 3, 10, 0, .ref 20), (.bipush 9, 2, 0, 0, .int 9), (.dup2, 1, 0, 0, .null), (.iaload, 1, 0, 0, .null), (.iconst 1, 1, 0, 0, .int 1), (.iadd, 1, 0, 0, .null), (.iastore, 1, 0, 0, .null)]) (L' := [some (.ref 93), some (.int x1), some (.int x2), some (.int (12480 + (4 * (w.1 94 (Int32.toNatClampNeg 9)))))]) (st' := []) (w' := ((jup w13.1 94 (Int32.toNatClampNeg 9) ((w13.1 94 (Int32.toNatClampNeg 9)) + 1)), w13.2)) (g := [jin 9 21000, jin 9 21000]) (K := [(94, 20), (94, 20), (94, 20), (93, 10)]) (by decide +kernel) rfl rfl rfl hg14 (jk1 kz_94 (jk1 kz_94 (jk1 kz_94 (jk1 kz_93 jk0)))) ?_
      refine jlw_c (P := fun w15 => Ev l G (jrm d_Model_picture 0 0) y_Model_picture (some (.int z.1), jR0, z.2) 0 0 0 0 171 [some (.ref 93), some (.int x1), some (.int x2), some (.int (12480 + (4 * (w.1 94 (Int32.toNatClampNeg 9)))))] [] jR0 w15) h fun w15 h => ?_
      refine ev_seg (o := 10) (nL := 4) (q := 172) (xs := [(.iload_n 2, 1, 2, 0, .null)]) (L' := [some (.ref 93), some (.int x1), some (.int x2), some (.int (12480 + (4 * (w.1 94 (Int32.toNatClampNeg 9)))))]) (st' := [.int x2]) (w' := w15) (g := []) (K := []) (by decide +kernel) rfl rfl rfl rfl jk0 ?_
      cases h
      exact ev_iret (by decide +kernel) rfl rfl rfl rfl
    · replace h := jpos c22 h
      obtain ⟨hg16, h⟩ := jgd h
      refine ev_seg (o := 10) (nL := 4) (q := 80) (xs := [(.iload_n 2, 1, 2, 0, .null), (.aload_n 0, 1, 0, 0, .null), (.iload_n 3, 1, 3, 0, .null), (.aload_n 0, 1, 0, 0, .null), (.getfield 7, 3, 10, 0, .ref 20), (.iconst 0, 1, 0, 0, .int 0), (.iaload, 1, 0, 0, .null), (.iconst 1, 1, 0, 0, .int 1), (.isub, 1, 0, 0, .null)]) (L' := [some (.ref 93), some (.int x1), some (.int x2), some (.int x3)]) (st' := [.int ((w.1 94 (Int32.toNatClampNeg 0)) - 1), .int x3, .ref 93, .int x2]) (w' := w) (g := [jin 0 21000]) (K := [(94, 20), (94, 20), (93, 10)]) (by decide +kernel) rfl rfl rfl hg16 (jk1 kz_94 (jk1 kz_94 (jk1 kz_93 jk0))) ?_
      obtain ⟨q17, hq17, h⟩ := jbe h
      refine ev_callV (ci := 10) (a := 93) (y2 := y_Model_whereOf) (o := 10) (idx := 78) (d2 := d_Model_whereOf) (n := 2) (mc2 := 0) (ms2 := 0) (As := [.int x3, .int ((w.1 94 (Int32.toNatClampNeg 0)) - 1)]) (st := [.int x2]) (res2 := (some (.int q17.1), jR0, q17.2)) (by decide +kernel) rfl lk_10_78 mo_Model_whereOf mv_Model_whereOf ⟨Nat.le_of_ble_eq_true rfl, Nat.le_of_ble_eq_true rfl⟩ rfl rfl kz_93 (by decide) rfl (Nat.le_of_ble_eq_true rfl) ⟨Nat.le_refl _, Nat.le_refl _⟩ hG (e_Model_whereOf hG hq17) ?_
      refine ev_seg (o := 10) (nL := 4) (q := 84) (xs := [(.iload_n 1, 1, 1, 0, .null)]) (L' := [some (.ref 93), some (.int x1), some (.int x2), some (.int x3)]) (st' := [.int x1, .int q17.1, .int x2]) (w' := q17.2) (g := []) (K := []) (by decide +kernel) rfl rfl rfl rfl jk0 ?_
      refine ev_icmp_ne (off := 23) (tgt := 107) (by decide +kernel) (by decide) (fun c21 => ?_) (fun c21 => ?_)
      · replace h := jneg c21 h
        refine ev_seg (o := 10) (nL := 4) (q := 59) (xs := [(.iconst 0, 1, 0, 0, .int 0), (.iadd, 1, 0, 0, .null), (.istore_n 2, 1, 2, 0, .null), (.iinc 3 1, 3, 3, 0, .int 1), (.goto (-54), 3, 0, 0, .null)]) (L' := [some (.ref 93), some (.int x1), some (.int (x2 + 0)), some (.int (x3 + 1))]) (st' := []) (w' := q17.2) (g := []) (K := []) (by decide +kernel) rfl rfl rfl rfl jk0 ?_
        refine ev_mask [true, true, true, true] ?_
        exact ih _ _ _ _ _ h
      · replace h := jpos c21 h
        refine ev_seg (o := 10) (nL := 4) (q := 90) (xs := [(.aload_n 0, 1, 0, 0, .null), (.iload_n 3, 1, 3, 0, .null), (.iconst 1, 1, 0, 0, .int 1)]) (L' := [some (.ref 93), some (.int x1), some (.int x2), some (.int x3)]) (st' := [.int 1, .int x3, .ref 93, .int x2]) (w' := q17.2) (g := []) (K := []) (by decide +kernel) rfl rfl rfl rfl jk0 ?_
        obtain ⟨q18, hq18, h⟩ := jbe h
        refine ev_callV (ci := 10) (a := 93) (y2 := y_Model_thingAt) (o := 10) (idx := 66) (d2 := d_Model_thingAt) (n := 2) (mc2 := 0) (ms2 := 0) (As := [.int x3, .int 1]) (st := [.int x2]) (res2 := (some (.int q18.1), jR0, q18.2)) (by decide +kernel) rfl lk_10_66 mo_Model_thingAt mv_Model_thingAt ⟨Nat.le_of_ble_eq_true rfl, Nat.le_of_ble_eq_true rfl⟩ rfl rfl kz_93 (by decide) rfl (Nat.le_of_ble_eq_true rfl) ⟨Nat.le_refl _, Nat.le_refl _⟩ hG (e_Model_thingAt hG hq18) ?_
        obtain ⟨hg19, h⟩ := jgd h
        refine ev_seg (o := 10) (nL := 4) (q := 100) (xs := [(.aload_n 0, 1, 0, 0, .null), (.getfield 7, 3, 10, 0, .ref 20), (.bipush 16, 2, 0, 0, .int 16), (.iaload, 1, 0, 0, .null)]) (L' := [some (.ref 93), some (.int x1), some (.int x2), some (.int x3)]) (st' := [.int (q18.2.1 94 (Int32.toNatClampNeg 16)), .int q18.1, .int x2]) (w' := q18.2) (g := [jin 16 21000]) (K := [(94, 20), (94, 20), (93, 10)]) (by decide +kernel) rfl rfl rfl hg19 (jk1 kz_94 (jk1 kz_94 (jk1 kz_93 jk0))) ?_
        refine ev_icmp_lt (off := 7) (tgt := 107) (by decide +kernel) (by decide) (fun c20 => ?_) (fun c20 => ?_)
        · replace h := jpos c20 h
          refine ev_seg (o := 10) (nL := 4) (q := 59) (xs := [(.iconst 0, 1, 0, 0, .int 0), (.iadd, 1, 0, 0, .null), (.istore_n 2, 1, 2, 0, .null), (.iinc 3 1, 3, 3, 0, .int 1), (.goto (-54), 3, 0, 0, .null)]) (L' := [some (.ref 93), some (.int x1), some (.int (x2 + 0)), some (.int (x3 + 1))]) (st' := []) (w' := q18.2) (g := []) (K := []) (by decide +kernel) rfl rfl rfl rfl jk0 ?_
          refine ev_mask [true, true, true, true] ?_
          exact ih _ _ _ _ _ h
        · replace h := jneg c20 h
          refine ev_seg (o := 10) (nL := 4) (q := 59) (xs := [(.iconst 1, 1, 0, 0, .int 1), (.goto 4, 3, 0, 0, .null), (.iadd, 1, 0, 0, .null), (.istore_n 2, 1, 2, 0, .null), (.iinc 3 1, 3, 3, 0, .int 1), (.goto (-54), 3, 0, 0, .null)]) (L' := [some (.ref 93), some (.int x1), some (.int (x2 + 1)), some (.int (x3 + 1))]) (st' := []) (w' := q18.2) (g := []) (K := []) (by decide +kernel) rfl rfl rfl rfl jk0 ?_
          refine ev_mask [true, true, true, true] ?_
          exact ih _ _ _ _ _ h
def f_Model_picture (x1 : Int32) (w : jW) : Option (Int32 × jW) :=
  Option.bind (f_Model_isSite x1 w) fun q1 =>
  if q1.1 = 0 then
    some ((-1), q1.2)
  else
    Option.bind (f_Model_siteAt x1 3 q1.2) fun q2 =>
    if q2.1 = 1 then
      some ((-1), q2.2)
    else
      if jal [jin 0 21000] = true then
      if (q2.2.1 94 (Int32.toNatClampNeg 0)) = 0 then
        some ((-1), q2.2)
      else
        if jal [jin 0 21000] = true then
        Option.bind (f_Model_isCloudy x1 (q2.2.1 94 (Int32.toNatClampNeg 0)) q2.2) fun q5 =>
        if q5.1 = 0 then
          if jal [jin 9 21000] = true then
          if (q5.2.1 94 (Int32.toNatClampNeg 9)) = 100 then
            some ((-1), q5.2)
          else
            f_Model_picture_h59 jfu x1 0 0 q5.2
          else none
        else
          some ((-1), q5.2)
        else none
      else none
set_option maxRecDepth 20000 in
theorem e_Model_picture {l : Launch} {G : jG} (hG : jX G) {x1 : Int32} {w : jW} {z : (Int32 × jW)} (h : f_Model_picture x1 w = some z) : Ct l G y_Model_picture d_Model_picture 0 0 [.ref 93, .int x1] jR0 w (some (.int z.1), jR0, z.2) := by
  rw [f_Model_picture] at h
  refine Ct.of (L := [some (.ref 93), some (.int x1), none, none]) (by decide) (Nat.le_of_ble_eq_true rfl) rfl ?_
  refine ev_seg (o := 10) (nL := 4) (q := 2) (xs := [(.aload_n 0, 1, 0, 0, .null), (.iload_n 1, 1, 1, 0, .null)]) (L' := [some (.ref 93), some (.int x1), none, none]) (st' := [.int x1, .ref 93]) (w' := w) (g := []) (K := []) (by decide +kernel) rfl rfl rfl rfl jk0 ?_
  obtain ⟨q1, hq1, h⟩ := jbe h
  refine ev_callV (ci := 10) (a := 93) (y2 := y_Model_isSite) (o := 10) (idx := 50) (d2 := d_Model_isSite) (n := 1) (mc2 := 0) (ms2 := 0) (As := [.int x1]) (st := []) (res2 := (some (.int q1.1), jR0, q1.2)) (by decide +kernel) rfl lk_10_50 mo_Model_isSite mv_Model_isSite ⟨Nat.le_of_ble_eq_true rfl, Nat.le_of_ble_eq_true rfl⟩ rfl rfl kz_93 (by decide) rfl (Nat.le_of_ble_eq_true rfl) ⟨Nat.le_refl _, Nat.le_refl _⟩ hG (e_Model_isSite hG hq1) ?_
  refine ev_if_eq (off := 48) (tgt := 53) (by decide +kernel) (by decide) (fun c27 => ?_) (fun c27 => ?_)
  · replace h := jpos c27 h
    refine ev_seg (o := 10) (nL := 4) (q := 54) (xs := [(.iconst (-1), 1, 0, 0, .int (-1))]) (L' := [some (.ref 93), some (.int x1), none, none]) (st' := [.int (-1)]) (w' := q1.2) (g := []) (K := []) (by decide +kernel) rfl rfl rfl rfl jk0 ?_
    cases h
    exact ev_iret (by decide +kernel) rfl rfl rfl rfl
  · replace h := jneg c27 h
    refine ev_seg (o := 10) (nL := 4) (q := 11) (xs := [(.aload_n 0, 1, 0, 0, .null), (.iload_n 1, 1, 1, 0, .null), (.iconst 3, 1, 0, 0, .int 3)]) (L' := [some (.ref 93), some (.int x1), none, none]) (st' := [.int 3, .int x1, .ref 93]) (w' := q1.2) (g := []) (K := []) (by decide +kernel) rfl rfl rfl rfl jk0 ?_
    obtain ⟨q2, hq2, h⟩ := jbe h
    refine ev_callV (ci := 10) (a := 93) (y2 := y_Model_siteAt) (o := 10) (idx := 54) (d2 := d_Model_siteAt) (n := 2) (mc2 := 0) (ms2 := 0) (As := [.int x1, .int 3]) (st := []) (res2 := (some (.int q2.1), jR0, q2.2)) (by decide +kernel) rfl lk_10_54 mo_Model_siteAt mv_Model_siteAt ⟨Nat.le_of_ble_eq_true rfl, Nat.le_of_ble_eq_true rfl⟩ rfl rfl kz_93 (by decide) rfl (Nat.le_of_ble_eq_true rfl) ⟨Nat.le_refl _, Nat.le_refl _⟩ hG (e_Model_siteAt hG hq2) ?_
    refine ev_seg (o := 10) (nL := 4) (q := 15) (xs := [(.iconst 1, 1, 0, 0, .int 1)]) (L' := [some (.ref 93), some (.int x1), none, none]) (st' := [.int 1, .int q2.1]) (w' := q2.2) (g := []) (K := []) (by decide +kernel) rfl rfl rfl rfl jk0 ?_
    refine ev_icmp_eq (off := 38) (tgt := 53) (by decide +kernel) (by decide) (fun c26 => ?_) (fun c26 => ?_)
    · replace h := jpos c26 h
      refine ev_seg (o := 10) (nL := 4) (q := 54) (xs := [(.iconst (-1), 1, 0, 0, .int (-1))]) (L' := [some (.ref 93), some (.int x1), none, none]) (st' := [.int (-1)]) (w' := q2.2) (g := []) (K := []) (by decide +kernel) rfl rfl rfl rfl jk0 ?_
      cases h
      exact ev_iret (by decide +kernel) rfl rfl rfl rfl
    · replace h := jneg c26 h
      obtain ⟨hg3, h⟩ := jgd h
      refine ev_seg (o := 10) (nL := 4) (q := 24) (xs := [(.aload_n 0, 1, 0, 0, .null), (.getfield 7, 3, 10, 0, .ref 20), (.iconst 0, 1, 0, 0, .int 0), (.iaload, 1, 0, 0, .null)]) (L' := [some (.ref 93), some (.int x1), none, none]) (st' := [.int (q2.2.1 94 (Int32.toNatClampNeg 0))]) (w' := q2.2) (g := [jin 0 21000]) (K := [(94, 20), (94, 20), (93, 10)]) (by decide +kernel) rfl rfl rfl hg3 (jk1 kz_94 (jk1 kz_94 (jk1 kz_93 jk0))) ?_
      refine ev_if_eq (off := 29) (tgt := 53) (by decide +kernel) (by decide) (fun c25 => ?_) (fun c25 => ?_)
      · replace h := jpos c25 h
        refine ev_seg (o := 10) (nL := 4) (q := 54) (xs := [(.iconst (-1), 1, 0, 0, .int (-1))]) (L' := [some (.ref 93), some (.int x1), none, none]) (st' := [.int (-1)]) (w' := q2.2) (g := []) (K := []) (by decide +kernel) rfl rfl rfl rfl jk0 ?_
        cases h
        exact ev_iret (by decide +kernel) rfl rfl rfl rfl
      · replace h := jneg c25 h
        obtain ⟨hg4, h⟩ := jgd h
        refine ev_seg (o := 10) (nL := 4) (q := 35) (xs := [(.aload_n 0, 1, 0, 0, .null), (.iload_n 1, 1, 1, 0, .null), (.aload_n 0, 1, 0, 0, .null), (.getfield 7, 3, 10, 0, .ref 20), (.iconst 0, 1, 0, 0, .int 0), (.iaload, 1, 0, 0, .null)]) (L' := [some (.ref 93), some (.int x1), none, none]) (st' := [.int (q2.2.1 94 (Int32.toNatClampNeg 0)), .int x1, .ref 93]) (w' := q2.2) (g := [jin 0 21000]) (K := [(94, 20), (94, 20), (93, 10)]) (by decide +kernel) rfl rfl rfl hg4 (jk1 kz_94 (jk1 kz_94 (jk1 kz_93 jk0))) ?_
        obtain ⟨q5, hq5, h⟩ := jbe h
        refine ev_callV (ci := 10) (a := 93) (y2 := y_Model_isCloudy) (o := 10) (idx := 274) (d2 := d_Model_isCloudy) (n := 2) (mc2 := 0) (ms2 := 0) (As := [.int x1, .int (q2.2.1 94 (Int32.toNatClampNeg 0))]) (st := []) (res2 := (some (.int q5.1), jR0, q5.2)) (by decide +kernel) rfl lk_10_274 mo_Model_isCloudy mv_Model_isCloudy ⟨Nat.le_of_ble_eq_true rfl, Nat.le_of_ble_eq_true rfl⟩ rfl rfl kz_93 (by decide) rfl (Nat.le_of_ble_eq_true rfl) ⟨Nat.le_refl _, Nat.le_refl _⟩ hG (e_Model_isCloudy hG hq5) ?_
        refine ev_if_ne (off := 15) (tgt := 53) (by decide +kernel) (by decide) (fun c24 => ?_) (fun c24 => ?_)
        · replace h := jneg c24 h
          refine ev_seg (o := 10) (nL := 4) (q := 54) (xs := [(.iconst (-1), 1, 0, 0, .int (-1))]) (L' := [some (.ref 93), some (.int x1), none, none]) (st' := [.int (-1)]) (w' := q5.2) (g := []) (K := []) (by decide +kernel) rfl rfl rfl rfl jk0 ?_
          cases h
          exact ev_iret (by decide +kernel) rfl rfl rfl rfl
        · replace h := jpos c24 h
          obtain ⟨hg6, h⟩ := jgd h
          refine ev_seg (o := 10) (nL := 4) (q := 50) (xs := [(.aload_n 0, 1, 0, 0, .null), (.getfield 7, 3, 10, 0, .ref 20), (.bipush 9, 2, 0, 0, .int 9), (.iaload, 1, 0, 0, .null), (.bipush 100, 2, 0, 0, .int 100)]) (L' := [some (.ref 93), some (.int x1), none, none]) (st' := [.int 100, .int (q5.2.1 94 (Int32.toNatClampNeg 9))]) (w' := q5.2) (g := [jin 9 21000]) (K := [(94, 20), (94, 20), (93, 10)]) (by decide +kernel) rfl rfl rfl hg6 (jk1 kz_94 (jk1 kz_94 (jk1 kz_93 jk0))) ?_
          refine ev_icmp_ne (off := 5) (tgt := 55) (by decide +kernel) (by decide) (fun c23 => ?_) (fun c23 => ?_)
          · replace h := jneg c23 h
            refine ev_seg (o := 10) (nL := 4) (q := 59) (xs := [(.iconst 0, 1, 0, 0, .int 0), (.istore_n 2, 1, 2, 0, .null), (.iconst 0, 1, 0, 0, .int 0), (.istore_n 3, 1, 3, 0, .null)]) (L' := [some (.ref 93), some (.int x1), some (.int 0), some (.int 0)]) (st' := []) (w' := q5.2) (g := []) (K := []) (by decide +kernel) rfl rfl rfl rfl jk0 ?_
            refine ev_mask [true, true, true, true] ?_
            exact t_Model_picture_h59 hG jfu _ _ _ _ _ h
          · replace h := jpos c23 h
            refine ev_seg (o := 10) (nL := 4) (q := 54) (xs := [(.iconst (-1), 1, 0, 0, .int (-1))]) (L' := [some (.ref 93), some (.int x1), none, none]) (st' := [.int (-1)]) (w' := q5.2) (g := []) (K := []) (by decide +kernel) rfl rfl rfl rfl jk0 ?_
            cases h
            exact ev_iret (by decide +kernel) rfl rfl rfl rfl
def f_Model_fits (x1 : Int32) (x2 : Int32) (w : jW) : Option (Int32 × jW) :=
  Option.bind (f_Model_thingAt x1 1 w) fun q1 =>
  Option.bind (f_Model_thingAt x1 2 q1.2) fun q2 =>
  if jal [jin (20 + (4 * x2)) 21000, jin 14 21000] = true then
  if (q1.1 + (q2.2.1 94 (Int32.toNatClampNeg 14))) < (q2.2.1 94 (Int32.toNatClampNeg (20 + (4 * x2)))) then
    some (0, q2.2)
  else
    if jal [jin ((20 + (4 * x2)) + 1) 21000, jin 14 21000] = true then
    if (q1.1 - (q2.2.1 94 (Int32.toNatClampNeg 14))) ≤ (q2.2.1 94 (Int32.toNatClampNeg ((20 + (4 * x2)) + 1))) then
      if jal [jin ((20 + (4 * x2)) + 2) 21000, jin 15 21000] = true then
      if (q2.1 + (q2.2.1 94 (Int32.toNatClampNeg 15))) < (q2.2.1 94 (Int32.toNatClampNeg ((20 + (4 * x2)) + 2))) then
        some (0, q2.2)
      else
        if jal [jin ((20 + (4 * x2)) + 3) 21000, jin 15 21000] = true then
        if (q2.1 - (q2.2.1 94 (Int32.toNatClampNeg 15))) ≤ (q2.2.1 94 (Int32.toNatClampNeg ((20 + (4 * x2)) + 3))) then
          some (1, q2.2)
        else
          some (0, q2.2)
        else none
      else none
    else
      some (0, q2.2)
    else none
  else none
set_option maxRecDepth 20000 in
theorem e_Model_fits {l : Launch} {G : jG} (hG : jX G) {x1 : Int32} {x2 : Int32} {w : jW} {z : (Int32 × jW)} (h : f_Model_fits x1 x2 w = some z) : Ct l G y_Model_fits d_Model_fits 0 0 [.ref 93, .int x1, .int x2] jR0 w (some (.int z.1), jR0, z.2) := by
  rw [f_Model_fits] at h
  refine Ct.of (L := [some (.ref 93), some (.int x1), some (.int x2), none, none, none]) (by decide) (Nat.le_of_ble_eq_true rfl) rfl ?_
  refine ev_seg (o := 10) (nL := 6) (q := 3) (xs := [(.aload_n 0, 1, 0, 0, .null), (.iload_n 1, 1, 1, 0, .null), (.iconst 1, 1, 0, 0, .int 1)]) (L' := [some (.ref 93), some (.int x1), some (.int x2), none, none, none]) (st' := [.int 1, .int x1, .ref 93]) (w' := w) (g := []) (K := []) (by decide +kernel) rfl rfl rfl rfl jk0 ?_
  obtain ⟨q1, hq1, h⟩ := jbe h
  refine ev_callV (ci := 10) (a := 93) (y2 := y_Model_thingAt) (o := 10) (idx := 66) (d2 := d_Model_thingAt) (n := 2) (mc2 := 0) (ms2 := 0) (As := [.int x1, .int 1]) (st := []) (res2 := (some (.int q1.1), jR0, q1.2)) (by decide +kernel) rfl lk_10_66 mo_Model_thingAt mv_Model_thingAt ⟨Nat.le_of_ble_eq_true rfl, Nat.le_of_ble_eq_true rfl⟩ rfl rfl kz_93 (by decide) rfl (Nat.le_of_ble_eq_true rfl) ⟨Nat.le_refl _, Nat.le_refl _⟩ hG (e_Model_thingAt hG hq1) ?_
  refine ev_seg (o := 10) (nL := 6) (q := 10) (xs := [(.istore_n 3, 1, 3, 0, .null), (.aload_n 0, 1, 0, 0, .null), (.iload_n 1, 1, 1, 0, .null), (.iconst 2, 1, 0, 0, .int 2)]) (L' := [some (.ref 93), some (.int x1), some (.int x2), some (.int q1.1), none, none]) (st' := [.int 2, .int x1, .ref 93]) (w' := q1.2) (g := []) (K := []) (by decide +kernel) rfl rfl rfl rfl jk0 ?_
  obtain ⟨q2, hq2, h⟩ := jbe h
  refine ev_callV (ci := 10) (a := 93) (y2 := y_Model_thingAt) (o := 10) (idx := 66) (d2 := d_Model_thingAt) (n := 2) (mc2 := 0) (ms2 := 0) (As := [.int x1, .int 2]) (st := []) (res2 := (some (.int q2.1), jR0, q2.2)) (by decide +kernel) rfl lk_10_66 mo_Model_thingAt mv_Model_thingAt ⟨Nat.le_of_ble_eq_true rfl, Nat.le_of_ble_eq_true rfl⟩ rfl rfl kz_93 (by decide) rfl (Nat.le_of_ble_eq_true rfl) ⟨Nat.le_refl _, Nat.le_refl _⟩ hG (e_Model_thingAt hG hq2) ?_
  obtain ⟨hg3, h⟩ := jgd h
  refine ev_seg (o := 10) (nL := 6) (q := 39) (xs := [(.istore 4, 2, 4, 0, .null), (.bipush 20, 2, 0, 0, .int 20), (.iconst 4, 1, 0, 0, .int 4), (.iload_n 2, 1, 2, 0, .null), (.imul, 1, 0, 0, .null), (.iadd, 1, 0, 0, .null), (.istore 5, 2, 5, 0, .null), (.iload_n 3, 1, 3, 0, .null), (.aload_n 0, 1, 0, 0, .null), (.getfield 7, 3, 10, 0, .ref 20), (.bipush 14, 2, 0, 0, .int 14), (.iaload, 1, 0, 0, .null), (.iadd, 1, 0, 0, .null), (.aload_n 0, 1, 0, 0, .null), (.getfield 7, 3, 10, 0, .ref 20), (.iload 5, 2, 5, 0, .null), (.iaload, 1, 0, 0, .null)]) (L' := [some (.ref 93), some (.int x1), some (.int x2), some (.int q1.1), some (.int q2.1), some (.int (20 + (4 * x2)))]) (st' := [.int (q2.2.1 94 (Int32.toNatClampNeg (20 + (4 * x2)))), .int (q1.1 + (q2.2.1 94 (Int32.toNatClampNeg 14)))]) (w' := q2.2) (g := [jin (20 + (4 * x2)) 21000, jin 14 21000]) (K := [(94, 20), (94, 20), (93, 10), (94, 20), (94, 20), (93, 10)]) (by decide +kernel) rfl rfl rfl hg3 (jk1 kz_94 (jk1 kz_94 (jk1 kz_93 (jk1 kz_94 (jk1 kz_94 (jk1 kz_93 jk0)))))) ?_
  refine ev_icmp_lt (off := 72) (tgt := 111) (by decide +kernel) (by decide) (fun c10 => ?_) (fun c10 => ?_)
  · replace h := jpos c10 h
    refine ev_seg (o := 10) (nL := 6) (q := 112) (xs := [(.iconst 0, 1, 0, 0, .int 0)]) (L' := [some (.ref 93), some (.int x1), some (.int x2), some (.int q1.1), some (.int q2.1), some (.int (20 + (4 * x2)))]) (st' := [.int 0]) (w' := q2.2) (g := []) (K := []) (by decide +kernel) rfl rfl rfl rfl jk0 ?_
    cases h
    exact ev_zret (by decide +kernel) rfl rfl rfl rfl rfl
  · replace h := jneg c10 h
    obtain ⟨hg4, h⟩ := jgd h
    refine ev_seg (o := 10) (nL := 6) (q := 60) (xs := [(.iload_n 3, 1, 3, 0, .null), (.aload_n 0, 1, 0, 0, .null), (.getfield 7, 3, 10, 0, .ref 20), (.bipush 14, 2, 0, 0, .int 14), (.iaload, 1, 0, 0, .null), (.isub, 1, 0, 0, .null), (.aload_n 0, 1, 0, 0, .null), (.getfield 7, 3, 10, 0, .ref 20), (.iload 5, 2, 5, 0, .null), (.iconst 1, 1, 0, 0, .int 1), (.iadd, 1, 0, 0, .null), (.iaload, 1, 0, 0, .null)]) (L' := [some (.ref 93), some (.int x1), some (.int x2), some (.int q1.1), some (.int q2.1), some (.int (20 + (4 * x2)))]) (st' := [.int (q2.2.1 94 (Int32.toNatClampNeg ((20 + (4 * x2)) + 1))), .int (q1.1 - (q2.2.1 94 (Int32.toNatClampNeg 14)))]) (w' := q2.2) (g := [jin ((20 + (4 * x2)) + 1) 21000, jin 14 21000]) (K := [(94, 20), (94, 20), (93, 10), (94, 20), (94, 20), (93, 10)]) (by decide +kernel) rfl rfl rfl hg4 (jk1 kz_94 (jk1 kz_94 (jk1 kz_93 (jk1 kz_94 (jk1 kz_94 (jk1 kz_93 jk0)))))) ?_
    refine ev_icmp_gt (off := 51) (tgt := 111) (by decide +kernel) (by decide) (fun c9 => ?_) (fun c9 => ?_)
    · replace h := jneg c9 h
      refine ev_seg (o := 10) (nL := 6) (q := 112) (xs := [(.iconst 0, 1, 0, 0, .int 0)]) (L' := [some (.ref 93), some (.int x1), some (.int x2), some (.int q1.1), some (.int q2.1), some (.int (20 + (4 * x2)))]) (st' := [.int 0]) (w' := q2.2) (g := []) (K := []) (by decide +kernel) rfl rfl rfl rfl jk0 ?_
      cases h
      exact ev_zret (by decide +kernel) rfl rfl rfl rfl rfl
    · replace h := jpos c9 h
      obtain ⟨hg5, h⟩ := jgd h
      refine ev_seg (o := 10) (nL := 6) (q := 82) (xs := [(.iload 4, 2, 4, 0, .null), (.aload_n 0, 1, 0, 0, .null), (.getfield 7, 3, 10, 0, .ref 20), (.bipush 15, 2, 0, 0, .int 15), (.iaload, 1, 0, 0, .null), (.iadd, 1, 0, 0, .null), (.aload_n 0, 1, 0, 0, .null), (.getfield 7, 3, 10, 0, .ref 20), (.iload 5, 2, 5, 0, .null), (.iconst 2, 1, 0, 0, .int 2), (.iadd, 1, 0, 0, .null), (.iaload, 1, 0, 0, .null)]) (L' := [some (.ref 93), some (.int x1), some (.int x2), some (.int q1.1), some (.int q2.1), some (.int (20 + (4 * x2)))]) (st' := [.int (q2.2.1 94 (Int32.toNatClampNeg ((20 + (4 * x2)) + 2))), .int (q2.1 + (q2.2.1 94 (Int32.toNatClampNeg 15)))]) (w' := q2.2) (g := [jin ((20 + (4 * x2)) + 2) 21000, jin 15 21000]) (K := [(94, 20), (94, 20), (93, 10), (94, 20), (94, 20), (93, 10)]) (by decide +kernel) rfl rfl rfl hg5 (jk1 kz_94 (jk1 kz_94 (jk1 kz_93 (jk1 kz_94 (jk1 kz_94 (jk1 kz_93 jk0)))))) ?_
      refine ev_icmp_lt (off := 29) (tgt := 111) (by decide +kernel) (by decide) (fun c8 => ?_) (fun c8 => ?_)
      · replace h := jpos c8 h
        refine ev_seg (o := 10) (nL := 6) (q := 112) (xs := [(.iconst 0, 1, 0, 0, .int 0)]) (L' := [some (.ref 93), some (.int x1), some (.int x2), some (.int q1.1), some (.int q2.1), some (.int (20 + (4 * x2)))]) (st' := [.int 0]) (w' := q2.2) (g := []) (K := []) (by decide +kernel) rfl rfl rfl rfl jk0 ?_
        cases h
        exact ev_zret (by decide +kernel) rfl rfl rfl rfl rfl
      · replace h := jneg c8 h
        obtain ⟨hg6, h⟩ := jgd h
        refine ev_seg (o := 10) (nL := 6) (q := 104) (xs := [(.iload 4, 2, 4, 0, .null), (.aload_n 0, 1, 0, 0, .null), (.getfield 7, 3, 10, 0, .ref 20), (.bipush 15, 2, 0, 0, .int 15), (.iaload, 1, 0, 0, .null), (.isub, 1, 0, 0, .null), (.aload_n 0, 1, 0, 0, .null), (.getfield 7, 3, 10, 0, .ref 20), (.iload 5, 2, 5, 0, .null), (.iconst 3, 1, 0, 0, .int 3), (.iadd, 1, 0, 0, .null), (.iaload, 1, 0, 0, .null)]) (L' := [some (.ref 93), some (.int x1), some (.int x2), some (.int q1.1), some (.int q2.1), some (.int (20 + (4 * x2)))]) (st' := [.int (q2.2.1 94 (Int32.toNatClampNeg ((20 + (4 * x2)) + 3))), .int (q2.1 - (q2.2.1 94 (Int32.toNatClampNeg 15)))]) (w' := q2.2) (g := [jin ((20 + (4 * x2)) + 3) 21000, jin 15 21000]) (K := [(94, 20), (94, 20), (93, 10), (94, 20), (94, 20), (93, 10)]) (by decide +kernel) rfl rfl rfl hg6 (jk1 kz_94 (jk1 kz_94 (jk1 kz_93 (jk1 kz_94 (jk1 kz_94 (jk1 kz_93 jk0)))))) ?_
        refine ev_icmp_gt (off := 7) (tgt := 111) (by decide +kernel) (by decide) (fun c7 => ?_) (fun c7 => ?_)
        · replace h := jneg c7 h
          refine ev_seg (o := 10) (nL := 6) (q := 112) (xs := [(.iconst 0, 1, 0, 0, .int 0)]) (L' := [some (.ref 93), some (.int x1), some (.int x2), some (.int q1.1), some (.int q2.1), some (.int (20 + (4 * x2)))]) (st' := [.int 0]) (w' := q2.2) (g := []) (K := []) (by decide +kernel) rfl rfl rfl rfl jk0 ?_
          cases h
          exact ev_zret (by decide +kernel) rfl rfl rfl rfl rfl
        · replace h := jpos c7 h
          refine ev_seg (o := 10) (nL := 6) (q := 112) (xs := [(.iconst 1, 1, 0, 0, .int 1), (.goto 4, 3, 0, 0, .null)]) (L' := [some (.ref 93), some (.int x1), some (.int x2), some (.int q1.1), some (.int q2.1), some (.int (20 + (4 * x2)))]) (st' := [.int 1]) (w' := q2.2) (g := []) (K := []) (by decide +kernel) rfl rfl rfl rfl jk0 ?_
          cases h
          exact ev_zret (by decide +kernel) rfl rfl rfl rfl rfl
def f_Model_isQuiet_h3 : Nat → Int32 → Int32 → Int32 → Int32 → jW → Option (Int32 × jW)
  | 0, _, _, _, _, _ => none
  | n + 1, x1, x2, x3, x4, w =>
  if jal [jin 8 21000] = true then
  if x4 < (w.1 94 (Int32.toNatClampNeg 8)) then
    if jal [jin ((11280 + (12 * x4)) + 1) 21000] = true then
    if (w.1 94 (Int32.toNatClampNeg ((11280 + (12 * x4)) + 1))) = x1 then
      if jal [jin ((11280 + (12 * x4)) + 2) 21000] = true then
      Option.bind (f_Model_isIn (w.1 94 (Int32.toNatClampNeg ((11280 + (12 * x4)) + 2))) (x2 + 1) x3 w) fun q4 =>
      if q4.1 = 0 then
        (f_Model_isQuiet_h3 n) x1 x2 x3 (x4 + 1) q4.2
      else
        if jal [jin ((11280 + (12 * x4)) + 8) 21000] = true then
        if (q4.2.1 94 (Int32.toNatClampNeg ((11280 + (12 * x4)) + 8))) = 1 then
          if jal [jin ((1520 + (4 * (q4.2.1 94 (Int32.toNatClampNeg ((11280 + (12 * x4)) + 9))))) + 1) 21000, jin ((11280 + (12 * x4)) + 9) 21000] = true then
          if (q4.2.1 94 (Int32.toNatClampNeg ((1520 + (4 * (q4.2.1 94 (Int32.toNatClampNeg ((11280 + (12 * x4)) + 9))))) + 1))) < x2 then
            some (1, q4.2)
          else
            (f_Model_isQuiet_h3 n) x1 x2 x3 (x4 + 1) q4.2
          else none
        else
          (f_Model_isQuiet_h3 n) x1 x2 x3 (x4 + 1) q4.2
        else none
      else none
    else
      (f_Model_isQuiet_h3 n) x1 x2 x3 (x4 + 1) w
    else none
  else
    some (0, w)
  else none
set_option maxRecDepth 20000 in
theorem t_Model_isQuiet_h3 {l : Launch} {G : jG} (hG : jX G) : ∀ (n : Nat) (x1 : Int32) (x2 : Int32) (x3 : Int32) (x4 : Int32) (w : jW) (z : (Int32 × jW)), f_Model_isQuiet_h3 n x1 x2 x3 x4 w = some z → Ev l G (jrm d_Model_isQuiet 0 0) y_Model_isQuiet (some (.int z.1), jR0, z.2) 0 0 0 0 3 [some (.ref 93), some (.int x1), some (.int x2), some (.int x3), some (.int x4), none] [] jR0 w := by
  intro n
  induction n with
  | zero => intro x1 x2 x3 x4 w z h; simp only [f_Model_isQuiet_h3] at h; cases h
  | succ n ih =>
    intro x1 x2 x3 x4 w z h
    rw [f_Model_isQuiet_h3] at h
    obtain ⟨hg1, h⟩ := jgd h
    refine ev_seg (o := 10) (nL := 6) (q := 12) (xs := [(.iload 4, 2, 4, 0, .null), (.aload_n 0, 1, 0, 0, .null), (.getfield 7, 3, 10, 0, .ref 20), (.bipush 8, 2, 0, 0, .int 8), (.iaload, 1, 0, 0, .null)]) (L' := [some (.ref 93), some (.int x1), some (.int x2), some (.int x3), some (.int x4), none]) (st' := [.int (w.1 94 (Int32.toNatClampNeg 8)), .int x4]) (w' := w) (g := [jin 8 21000]) (K := [(94, 20), (94, 20), (93, 10)]) (by decide +kernel) rfl rfl rfl hg1 (jk1 kz_94 (jk1 kz_94 (jk1 kz_93 jk0))) ?_
    refine ev_icmp_ge (off := 95) (tgt := 107) (by decide +kernel) (by decide) (fun c11 => ?_) (fun c11 => ?_)
    · replace h := jneg c11 h
      refine ev_seg (o := 10) (nL := 6) (q := 108) (xs := [(.iconst 0, 1, 0, 0, .int 0)]) (L' := [some (.ref 93), some (.int x1), some (.int x2), some (.int x3), some (.int x4), none]) (st' := [.int 0]) (w' := w) (g := []) (K := []) (by decide +kernel) rfl rfl rfl rfl jk0 ?_
      cases h
      exact ev_zret (by decide +kernel) rfl rfl rfl rfl rfl
    · replace h := jpos c11 h
      obtain ⟨hg2, h⟩ := jgd h
      refine ev_seg (o := 10) (nL := 6) (q := 36) (xs := [(.sipush 11280, 3, 0, 0, .int 11280), (.bipush 12, 2, 0, 0, .int 12), (.iload 4, 2, 4, 0, .null), (.imul, 1, 0, 0, .null), (.iadd, 1, 0, 0, .null), (.istore 5, 2, 5, 0, .null), (.aload_n 0, 1, 0, 0, .null), (.getfield 7, 3, 10, 0, .ref 20), (.iload 5, 2, 5, 0, .null), (.iconst 1, 1, 0, 0, .int 1), (.iadd, 1, 0, 0, .null), (.iaload, 1, 0, 0, .null), (.iload_n 1, 1, 1, 0, .null)]) (L' := [some (.ref 93), some (.int x1), some (.int x2), some (.int x3), some (.int x4), some (.int (11280 + (12 * x4)))]) (st' := [.int x1, .int (w.1 94 (Int32.toNatClampNeg ((11280 + (12 * x4)) + 1)))]) (w' := w) (g := [jin ((11280 + (12 * x4)) + 1) 21000]) (K := [(94, 20), (94, 20), (93, 10)]) (by decide +kernel) rfl rfl rfl hg2 (jk1 kz_94 (jk1 kz_94 (jk1 kz_93 jk0))) ?_
      refine ev_icmp_ne (off := 65) (tgt := 101) (by decide +kernel) (by decide) (fun c10 => ?_) (fun c10 => ?_)
      · replace h := jneg c10 h
        refine ev_seg (o := 10) (nL := 6) (q := 3) (xs := [(.iinc 4 1, 3, 4, 0, .int 1), (.goto (-101), 3, 0, 0, .null)]) (L' := [some (.ref 93), some (.int x1), some (.int x2), some (.int x3), some (.int (x4 + 1)), some (.int (11280 + (12 * x4)))]) (st' := []) (w' := w) (g := []) (K := []) (by decide +kernel) rfl rfl rfl rfl jk0 ?_
        refine ev_mask [true, true, true, true, true, false] ?_
        exact ih _ _ _ _ _ _ h
      · replace h := jpos c10 h
        obtain ⟨hg3, h⟩ := jgd h
        refine ev_seg (o := 10) (nL := 6) (q := 52) (xs := [(.aload_n 0, 1, 0, 0, .null), (.getfield 7, 3, 10, 0, .ref 20), (.iload 5, 2, 5, 0, .null), (.iconst 2, 1, 0, 0, .int 2), (.iadd, 1, 0, 0, .null), (.iaload, 1, 0, 0, .null), (.iload_n 2, 1, 2, 0, .null), (.iconst 1, 1, 0, 0, .int 1), (.iadd, 1, 0, 0, .null), (.iload_n 3, 1, 3, 0, .null)]) (L' := [some (.ref 93), some (.int x1), some (.int x2), some (.int x3), some (.int x4), some (.int (11280 + (12 * x4)))]) (st' := [.int x3, .int (x2 + 1), .int (w.1 94 (Int32.toNatClampNeg ((11280 + (12 * x4)) + 2)))]) (w' := w) (g := [jin ((11280 + (12 * x4)) + 2) 21000]) (K := [(94, 20), (94, 20), (93, 10)]) (by decide +kernel) rfl rfl rfl hg3 (jk1 kz_94 (jk1 kz_94 (jk1 kz_93 jk0))) ?_
        obtain ⟨q4, hq4, h⟩ := jbe h
        refine ev_callS (y2 := y_Model_isIn) (o := 10) (idx := 46) (d2 := d_Model_isIn) (n := 3) (mc2 := 0) (ms2 := 0) (As := [.int (w.1 94 (Int32.toNatClampNeg ((11280 + (12 * x4)) + 2))), .int (x2 + 1), .int x3]) (st := []) (res2 := (some (.int q4.1), jR0, q4.2)) (by decide +kernel) rfl lk_10_46 mo_Model_isIn ms_Model_isIn ⟨Nat.le_of_ble_eq_true rfl, Nat.le_of_ble_eq_true rfl⟩ rfl rfl (Nat.le_of_ble_eq_true rfl) ⟨Nat.le_refl _, Nat.le_refl _⟩ hG (e_Model_isIn hG hq4) ?_
        refine ev_if_eq (off := 46) (tgt := 101) (by decide +kernel) (by decide) (fun c9 => ?_) (fun c9 => ?_)
        · replace h := jpos c9 h
          refine ev_seg (o := 10) (nL := 6) (q := 3) (xs := [(.iinc 4 1, 3, 4, 0, .int 1), (.goto (-101), 3, 0, 0, .null)]) (L' := [some (.ref 93), some (.int x1), some (.int x2), some (.int x3), some (.int (x4 + 1)), some (.int (11280 + (12 * x4)))]) (st' := []) (w' := q4.2) (g := []) (K := []) (by decide +kernel) rfl rfl rfl rfl jk0 ?_
          refine ev_mask [true, true, true, true, true, false] ?_
          exact ih _ _ _ _ _ _ h
        · replace h := jneg c9 h
          obtain ⟨hg5, h⟩ := jgd h
          refine ev_seg (o := 10) (nL := 6) (q := 69) (xs := [(.aload_n 0, 1, 0, 0, .null), (.getfield 7, 3, 10, 0, .ref 20), (.iload 5, 2, 5, 0, .null), (.bipush 8, 2, 0, 0, .int 8), (.iadd, 1, 0, 0, .null), (.iaload, 1, 0, 0, .null), (.iconst 1, 1, 0, 0, .int 1)]) (L' := [some (.ref 93), some (.int x1), some (.int x2), some (.int x3), some (.int x4), some (.int (11280 + (12 * x4)))]) (st' := [.int 1, .int (q4.2.1 94 (Int32.toNatClampNeg ((11280 + (12 * x4)) + 8)))]) (w' := q4.2) (g := [jin ((11280 + (12 * x4)) + 8) 21000]) (K := [(94, 20), (94, 20), (93, 10)]) (by decide +kernel) rfl rfl rfl hg5 (jk1 kz_94 (jk1 kz_94 (jk1 kz_93 jk0))) ?_
          refine ev_icmp_ne (off := 32) (tgt := 101) (by decide +kernel) (by decide) (fun c8 => ?_) (fun c8 => ?_)
          · replace h := jneg c8 h
            refine ev_seg (o := 10) (nL := 6) (q := 3) (xs := [(.iinc 4 1, 3, 4, 0, .int 1), (.goto (-101), 3, 0, 0, .null)]) (L' := [some (.ref 93), some (.int x1), some (.int x2), some (.int x3), some (.int (x4 + 1)), some (.int (11280 + (12 * x4)))]) (st' := []) (w' := q4.2) (g := []) (K := []) (by decide +kernel) rfl rfl rfl rfl jk0 ?_
            refine ev_mask [true, true, true, true, true, false] ?_
            exact ih _ _ _ _ _ _ h
          · replace h := jpos c8 h
            obtain ⟨hg6, h⟩ := jgd h
            refine ev_seg (o := 10) (nL := 6) (q := 96) (xs := [(.aload_n 0, 1, 0, 0, .null), (.getfield 7, 3, 10, 0, .ref 20), (.sipush 1520, 3, 0, 0, .int 1520), (.iconst 4, 1, 0, 0, .int 4), (.aload_n 0, 1, 0, 0, .null), (.getfield 7, 3, 10, 0, .ref 20), (.iload 5, 2, 5, 0, .null), (.bipush 9, 2, 0, 0, .int 9), (.iadd, 1, 0, 0, .null), (.iaload, 1, 0, 0, .null), (.imul, 1, 0, 0, .null), (.iadd, 1, 0, 0, .null), (.iconst 1, 1, 0, 0, .int 1), (.iadd, 1, 0, 0, .null), (.iaload, 1, 0, 0, .null), (.iload_n 2, 1, 2, 0, .null)]) (L' := [some (.ref 93), some (.int x1), some (.int x2), some (.int x3), some (.int x4), some (.int (11280 + (12 * x4)))]) (st' := [.int x2, .int (q4.2.1 94 (Int32.toNatClampNeg ((1520 + (4 * (q4.2.1 94 (Int32.toNatClampNeg ((11280 + (12 * x4)) + 9))))) + 1)))]) (w' := q4.2) (g := [jin ((1520 + (4 * (q4.2.1 94 (Int32.toNatClampNeg ((11280 + (12 * x4)) + 9))))) + 1) 21000, jin ((11280 + (12 * x4)) + 9) 21000]) (K := [(94, 20), (94, 20), (94, 20), (93, 10), (94, 20), (93, 10)]) (by decide +kernel) rfl rfl rfl hg6 (jk1 kz_94 (jk1 kz_94 (jk1 kz_94 (jk1 kz_93 (jk1 kz_94 (jk1 kz_93 jk0)))))) ?_
            refine ev_icmp_ge (off := 5) (tgt := 101) (by decide +kernel) (by decide) (fun c7 => ?_) (fun c7 => ?_)
            · replace h := jneg c7 h
              refine ev_seg (o := 10) (nL := 6) (q := 3) (xs := [(.iinc 4 1, 3, 4, 0, .int 1), (.goto (-101), 3, 0, 0, .null)]) (L' := [some (.ref 93), some (.int x1), some (.int x2), some (.int x3), some (.int (x4 + 1)), some (.int (11280 + (12 * x4)))]) (st' := []) (w' := q4.2) (g := []) (K := []) (by decide +kernel) rfl rfl rfl rfl jk0 ?_
              refine ev_mask [true, true, true, true, true, false] ?_
              exact ih _ _ _ _ _ _ h
            · replace h := jpos c7 h
              refine ev_seg (o := 10) (nL := 6) (q := 100) (xs := [(.iconst 1, 1, 0, 0, .int 1)]) (L' := [some (.ref 93), some (.int x1), some (.int x2), some (.int x3), some (.int x4), some (.int (11280 + (12 * x4)))]) (st' := [.int 1]) (w' := q4.2) (g := []) (K := []) (by decide +kernel) rfl rfl rfl rfl jk0 ?_
              cases h
              exact ev_zret (by decide +kernel) rfl rfl rfl rfl rfl
def f_Model_isQuiet (x1 : Int32) (x2 : Int32) (x3 : Int32) (w : jW) : Option (Int32 × jW) :=
  f_Model_isQuiet_h3 jfu x1 x2 x3 0 w
set_option maxRecDepth 20000 in
theorem e_Model_isQuiet {l : Launch} {G : jG} (hG : jX G) {x1 : Int32} {x2 : Int32} {x3 : Int32} {w : jW} {z : (Int32 × jW)} (h : f_Model_isQuiet x1 x2 x3 w = some z) : Ct l G y_Model_isQuiet d_Model_isQuiet 0 0 [.ref 93, .int x1, .int x2, .int x3] jR0 w (some (.int z.1), jR0, z.2) := by
  rw [f_Model_isQuiet] at h
  refine Ct.of (L := [some (.ref 93), some (.int x1), some (.int x2), some (.int x3), none, none]) (by decide) (Nat.le_of_ble_eq_true rfl) rfl ?_
  refine ev_seg (o := 10) (nL := 6) (q := 3) (xs := [(.iconst 0, 1, 0, 0, .int 0), (.istore 4, 2, 4, 0, .null)]) (L' := [some (.ref 93), some (.int x1), some (.int x2), some (.int x3), some (.int 0), none]) (st' := []) (w' := w) (g := []) (K := []) (by decide +kernel) rfl rfl rfl rfl jk0 ?_
  refine ev_mask [true, true, true, true, true, false] ?_
  exact t_Model_isQuiet_h3 hG jfu _ _ _ _ _ _ h
def f_Model_shifted_h38 : Nat → Int64 → Int32 → Int32 → Int64 → Int32 → Int32 → jW → Option (Int64 × jW)
  | 0, _, _, _, _, _, _, _ => none
  | n + 1, x1, x3, x4, x6, x8, x9, w =>
  if x9 < 4 then
    if x8 = 0 then
      (f_Model_shifted_h38 n) x1 x3 x4 x6 0 (x9 + 1) w
    else
      if x9 = x4 then
        (f_Model_shifted_h38 n) x1 x3 x4 x6 1 (x9 + 1) w
      else
        Option.bind (f_Model_fits x3 x9 w) fun q3 =>
        if q3.1 = 0 then
          (f_Model_shifted_h38 n) x1 x3 x4 x6 1 (x9 + 1) q3.2
        else
          (f_Model_shifted_h38 n) x1 x3 x4 x6 0 (x9 + 1) q3.2
  else
    if x8 = 0 then
      some ((x6 ||| x1), w)
    else
      some (x6, w)
set_option maxRecDepth 20000 in
theorem t_Model_shifted_h38 {l : Launch} {G : jG} (hG : jX G) : ∀ (n : Nat) (x1 : Int64) (x3 : Int32) (x4 : Int32) (x6 : Int64) (x8 : Int32) (x9 : Int32) (w : jW) (z : (Int64 × jW)), f_Model_shifted_h38 n x1 x3 x4 x6 x8 x9 w = some z → Ev l G (jrm d_Model_shifted 0 0) y_Model_shifted (some (.long z.1), jR0, z.2) 0 0 0 0 38 [some (.ref 93), some (.long x1), none, some (.int x3), some (.int x4), none, some (.long x6), none, some (.int x8), some (.int x9)] [] jR0 w := by
  intro n
  induction n with
  | zero => intro x1 x3 x4 x6 x8 x9 w z h; simp only [f_Model_shifted_h38] at h; cases h
  | succ n ih =>
    intro x1 x3 x4 x6 x8 x9 w z h
    rw [f_Model_shifted_h38] at h
    refine ev_seg (o := 10) (nL := 10) (q := 41) (xs := [(.iload 9, 2, 9, 0, .null), (.iconst 4, 1, 0, 0, .int 4)]) (L' := [some (.ref 93), some (.long x1), none, some (.int x3), some (.int x4), none, some (.long x6), none, some (.int x8), some (.int x9)]) (st' := [.int 4, .int x9]) (w' := w) (g := []) (K := []) (by decide +kernel) rfl rfl rfl rfl jk0 ?_
    refine ev_icmp_ge (off := 38) (tgt := 79) (by decide +kernel) (by decide) (fun c7 => ?_) (fun c7 => ?_)
    · replace h := jneg c7 h
      refine ev_seg (o := 10) (nL := 10) (q := 81) (xs := [(.iload 8, 2, 8, 0, .null)]) (L' := [some (.ref 93), some (.long x1), none, some (.int x3), some (.int x4), none, some (.long x6), none, some (.int x8), some (.int x9)]) (st' := [.int x8]) (w' := w) (g := []) (K := []) (by decide +kernel) rfl rfl rfl rfl jk0 ?_
      refine ev_if_eq (off := 8) (tgt := 89) (by decide +kernel) (by decide) (fun c2 => ?_) (fun c2 => ?_)
      · replace h := jpos c2 h
        refine ev_seg (o := 10) (nL := 10) (q := 93) (xs := [(.lload 6, 2, 6, 0, .null), (.lload_n 1, 1, 1, 0, .null), (.lor, 1, 0, 0, .null)]) (L' := [some (.ref 93), some (.long x1), none, some (.int x3), some (.int x4), none, some (.long x6), none, some (.int x8), some (.int x9)]) (st' := [.long (x6 ||| x1)]) (w' := w) (g := []) (K := []) (by decide +kernel) rfl rfl rfl rfl jk0 ?_
        cases h
        exact ev_lret (by decide +kernel) rfl rfl rfl rfl
      · replace h := jneg c2 h
        refine ev_seg (o := 10) (nL := 10) (q := 93) (xs := [(.lload 6, 2, 6, 0, .null), (.goto 7, 3, 0, 0, .null)]) (L' := [some (.ref 93), some (.long x1), none, some (.int x3), some (.int x4), none, some (.long x6), none, some (.int x8), some (.int x9)]) (st' := [.long x6]) (w' := w) (g := []) (K := []) (by decide +kernel) rfl rfl rfl rfl jk0 ?_
        cases h
        exact ev_lret (by decide +kernel) rfl rfl rfl rfl
    · replace h := jpos c7 h
      refine ev_seg (o := 10) (nL := 10) (q := 46) (xs := [(.iload 8, 2, 8, 0, .null)]) (L' := [some (.ref 93), some (.long x1), none, some (.int x3), some (.int x4), none, some (.long x6), none, some (.int x8), some (.int x9)]) (st' := [.int x8]) (w' := w) (g := []) (K := []) (by decide +kernel) rfl rfl rfl rfl jk0 ?_
      refine ev_if_eq (off := 24) (tgt := 70) (by decide +kernel) (by decide) (fun c6 => ?_) (fun c6 => ?_)
      · replace h := jpos c6 h
        refine ev_seg (o := 10) (nL := 10) (q := 38) (xs := [(.iconst 0, 1, 0, 0, .int 0), (.istore 8, 2, 8, 0, .null), (.iinc 9 1, 3, 9, 0, .int 1), (.goto (-38), 3, 0, 0, .null)]) (L' := [some (.ref 93), some (.long x1), none, some (.int x3), some (.int x4), none, some (.long x6), none, some (.int 0), some (.int (x9 + 1))]) (st' := []) (w' := w) (g := []) (K := []) (by decide +kernel) rfl rfl rfl rfl jk0 ?_
        refine ev_mask [true, true, false, true, true, false, true, false, true, true] ?_
        exact ih _ _ _ _ _ _ _ _ h
      · replace h := jneg c6 h
        refine ev_seg (o := 10) (nL := 10) (q := 53) (xs := [(.iload 9, 2, 9, 0, .null), (.iload 4, 2, 4, 0, .null)]) (L' := [some (.ref 93), some (.long x1), none, some (.int x3), some (.int x4), none, some (.long x6), none, some (.int x8), some (.int x9)]) (st' := [.int x4, .int x9]) (w' := w) (g := []) (K := []) (by decide +kernel) rfl rfl rfl rfl jk0 ?_
        refine ev_icmp_eq (off := 13) (tgt := 66) (by decide +kernel) (by decide) (fun c5 => ?_) (fun c5 => ?_)
        · replace h := jpos c5 h
          refine ev_seg (o := 10) (nL := 10) (q := 38) (xs := [(.iconst 1, 1, 0, 0, .int 1), (.goto 4, 3, 0, 0, .null), (.istore 8, 2, 8, 0, .null), (.iinc 9 1, 3, 9, 0, .int 1), (.goto (-38), 3, 0, 0, .null)]) (L' := [some (.ref 93), some (.long x1), none, some (.int x3), some (.int x4), none, some (.long x6), none, some (.int 1), some (.int (x9 + 1))]) (st' := []) (w' := w) (g := []) (K := []) (by decide +kernel) rfl rfl rfl rfl jk0 ?_
          refine ev_mask [true, true, false, true, true, false, true, false, true, true] ?_
          exact ih _ _ _ _ _ _ _ _ h
        · replace h := jneg c5 h
          refine ev_seg (o := 10) (nL := 10) (q := 60) (xs := [(.aload_n 0, 1, 0, 0, .null), (.iload_n 3, 1, 3, 0, .null), (.iload 9, 2, 9, 0, .null)]) (L' := [some (.ref 93), some (.long x1), none, some (.int x3), some (.int x4), none, some (.long x6), none, some (.int x8), some (.int x9)]) (st' := [.int x9, .int x3, .ref 93]) (w' := w) (g := []) (K := []) (by decide +kernel) rfl rfl rfl rfl jk0 ?_
          obtain ⟨q3, hq3, h⟩ := jbe h
          refine ev_callV (ci := 10) (a := 93) (y2 := y_Model_fits) (o := 10) (idx := 277) (d2 := d_Model_fits) (n := 2) (mc2 := 0) (ms2 := 0) (As := [.int x3, .int x9]) (st := []) (res2 := (some (.int q3.1), jR0, q3.2)) (by decide +kernel) rfl lk_10_277 mo_Model_fits mv_Model_fits ⟨Nat.le_of_ble_eq_true rfl, Nat.le_of_ble_eq_true rfl⟩ rfl rfl kz_93 (by decide) rfl (Nat.le_of_ble_eq_true rfl) ⟨Nat.le_refl _, Nat.le_refl _⟩ hG (e_Model_fits hG hq3) ?_
          refine ev_if_ne (off := 7) (tgt := 70) (by decide +kernel) (by decide) (fun c4 => ?_) (fun c4 => ?_)
          · replace h := jneg c4 h
            refine ev_seg (o := 10) (nL := 10) (q := 38) (xs := [(.iconst 0, 1, 0, 0, .int 0), (.istore 8, 2, 8, 0, .null), (.iinc 9 1, 3, 9, 0, .int 1), (.goto (-38), 3, 0, 0, .null)]) (L' := [some (.ref 93), some (.long x1), none, some (.int x3), some (.int x4), none, some (.long x6), none, some (.int 0), some (.int (x9 + 1))]) (st' := []) (w' := q3.2) (g := []) (K := []) (by decide +kernel) rfl rfl rfl rfl jk0 ?_
            refine ev_mask [true, true, false, true, true, false, true, false, true, true] ?_
            exact ih _ _ _ _ _ _ _ _ h
          · replace h := jpos c4 h
            refine ev_seg (o := 10) (nL := 10) (q := 38) (xs := [(.iconst 1, 1, 0, 0, .int 1), (.goto 4, 3, 0, 0, .null), (.istore 8, 2, 8, 0, .null), (.iinc 9 1, 3, 9, 0, .int 1), (.goto (-38), 3, 0, 0, .null)]) (L' := [some (.ref 93), some (.long x1), none, some (.int x3), some (.int x4), none, some (.long x6), none, some (.int 1), some (.int (x9 + 1))]) (st' := []) (w' := q3.2) (g := []) (K := []) (by decide +kernel) rfl rfl rfl rfl jk0 ?_
            refine ev_mask [true, true, false, true, true, false, true, false, true, true] ?_
            exact ih _ _ _ _ _ _ _ _ h
def f_Model_shifted_j30 (x1 : Int64) (x3 : Int32) (x4 : Int32) (s0 : Int64) (w : jW) : Option (Int64 × jW) :=
  f_Model_shifted_h38 jfu x1 x3 x4 s0 1 0 w
set_option maxRecDepth 20000 in
theorem t_Model_shifted_j30 {l : Launch} {G : jG} (hG : jX G) {x1 : Int64} {x3 : Int32} {x4 : Int32} {s0 : Int64} {w : jW} {z : (Int64 × jW)} (h : f_Model_shifted_j30 x1 x3 x4 s0 w = some z) : Ev l G (jrm d_Model_shifted 0 0) y_Model_shifted (some (.long z.1), jR0, z.2) 0 0 0 0 30 [some (.ref 93), some (.long x1), none, some (.int x3), some (.int x4), none, none, none, none, none] [.long s0] jR0 w := by
  rw [f_Model_shifted_j30] at h
  refine ev_seg (o := 10) (nL := 10) (q := 38) (xs := [(.lstore 6, 2, 6, 0, .null), (.iconst 1, 1, 0, 0, .int 1), (.istore 8, 2, 8, 0, .null), (.iconst 0, 1, 0, 0, .int 0), (.istore 9, 2, 9, 0, .null)]) (L' := [some (.ref 93), some (.long x1), none, some (.int x3), some (.int x4), none, some (.long s0), none, some (.int 1), some (.int 0)]) (st' := []) (w' := w) (g := []) (K := []) (by decide +kernel) rfl rfl rfl rfl jk0 ?_
  refine ev_mask [true, true, false, true, true, false, true, false, true, true] ?_
  exact t_Model_shifted_h38 hG jfu _ _ _ _ _ _ _ _ h
def f_Model_shifted (x1 : Int64) (x3 : Int32) (x4 : Int32) (x5 : Int32) (w : jW) : Option (Int64 × jW) :=
  Option.bind (f_Model_fits x3 x4 w) fun q1 =>
  if q1.1 = 0 then
    some (x1, q1.2)
  else
    if x5 = 0 then
      f_Model_shifted_j30 x1 x3 x4 (((Int64.toUInt64 x1) >>> ((Int32.toInt64 1).toUInt64 &&& Int64.toUInt64 63)).toInt64) q1.2
    else
      f_Model_shifted_j30 x1 x3 x4 ((x1 <<< (Int32.toInt64 1 &&& 63)) &&& 2199023255551) q1.2
set_option maxRecDepth 20000 in
theorem e_Model_shifted {l : Launch} {G : jG} (hG : jX G) {x1 : Int64} {x3 : Int32} {x4 : Int32} {x5 : Int32} {w : jW} {z : (Int64 × jW)} (h : f_Model_shifted x1 x3 x4 x5 w = some z) : Ct l G y_Model_shifted d_Model_shifted 0 0 [.ref 93, .long x1, .int x3, .int x4, .int x5] jR0 w (some (.long z.1), jR0, z.2) := by
  rw [f_Model_shifted] at h
  refine Ct.of (L := [some (.ref 93), some (.long x1), none, some (.int x3), some (.int x4), some (.int x5), none, none, none, none]) (by decide) (Nat.le_of_ble_eq_true rfl) rfl ?_
  refine ev_seg (o := 10) (nL := 10) (q := 4) (xs := [(.aload_n 0, 1, 0, 0, .null), (.iload_n 3, 1, 3, 0, .null), (.iload 4, 2, 4, 0, .null)]) (L' := [some (.ref 93), some (.long x1), none, some (.int x3), some (.int x4), some (.int x5), none, none, none, none]) (st' := [.int x4, .int x3, .ref 93]) (w' := w) (g := []) (K := []) (by decide +kernel) rfl rfl rfl rfl jk0 ?_
  obtain ⟨q1, hq1, h⟩ := jbe h
  refine ev_callV (ci := 10) (a := 93) (y2 := y_Model_fits) (o := 10) (idx := 277) (d2 := d_Model_fits) (n := 2) (mc2 := 0) (ms2 := 0) (As := [.int x3, .int x4]) (st := []) (res2 := (some (.int q1.1), jR0, q1.2)) (by decide +kernel) rfl lk_10_277 mo_Model_fits mv_Model_fits ⟨Nat.le_of_ble_eq_true rfl, Nat.le_of_ble_eq_true rfl⟩ rfl rfl kz_93 (by decide) rfl (Nat.le_of_ble_eq_true rfl) ⟨Nat.le_refl _, Nat.le_refl _⟩ hG (e_Model_fits hG hq1) ?_
  refine ev_if_ne (off := 5) (tgt := 12) (by decide +kernel) (by decide) (fun c9 => ?_) (fun c9 => ?_)
  · replace h := jneg c9 h
    refine ev_seg (o := 10) (nL := 10) (q := 14) (xs := [(.iload 5, 2, 5, 0, .null)]) (L' := [some (.ref 93), some (.long x1), none, some (.int x3), some (.int x4), some (.int x5), none, none, none, none]) (st' := [.int x5]) (w' := q1.2) (g := []) (K := []) (by decide +kernel) rfl rfl rfl rfl jk0 ?_
    refine ev_if_eq (off := 13) (tgt := 27) (by decide +kernel) (by decide) (fun c8 => ?_) (fun c8 => ?_)
    · replace h := jpos c8 h
      refine ev_seg (o := 10) (nL := 10) (q := 30) (xs := [(.lload_n 1, 1, 1, 0, .null), (.iconst 1, 1, 0, 0, .int 1), (.lushr, 1, 0, 0, .null)]) (L' := [some (.ref 93), some (.long x1), none, some (.int x3), some (.int x4), some (.int x5), none, none, none, none]) (st' := [.long (((Int64.toUInt64 x1) >>> ((Int32.toInt64 1).toUInt64 &&& Int64.toUInt64 63)).toInt64)]) (w' := q1.2) (g := []) (K := []) (by decide +kernel) rfl rfl rfl rfl jk0 ?_
      refine ev_mask [true, true, false, true, true, false, false, false, false, false] ?_
      exact t_Model_shifted_j30 hG h
    · replace h := jneg c8 h
      refine ev_seg (o := 10) (nL := 10) (q := 30) (xs := [(.lload_n 1, 1, 1, 0, .null), (.iconst 1, 1, 0, 0, .int 1), (.lshl, 1, 0, 0, .null), (.ldc2_w 280, 3, 0, 0, .long 2199023255551), (.land, 1, 0, 0, .null), (.goto 6, 3, 0, 0, .null)]) (L' := [some (.ref 93), some (.long x1), none, some (.int x3), some (.int x4), some (.int x5), none, none, none, none]) (st' := [.long ((x1 <<< (Int32.toInt64 1 &&& 63)) &&& 2199023255551)]) (w' := q1.2) (g := []) (K := []) (by decide +kernel) rfl rfl rfl rfl jk0 ?_
      refine ev_mask [true, true, false, true, true, false, false, false, false, false] ?_
      exact t_Model_shifted_j30 hG h
  · replace h := jpos c9 h
    refine ev_seg (o := 10) (nL := 10) (q := 11) (xs := [(.lload_n 1, 1, 1, 0, .null)]) (L' := [some (.ref 93), some (.long x1), none, some (.int x3), some (.int x4), some (.int x5), none, none, none, none]) (st' := [.long x1]) (w' := q1.2) (g := []) (K := []) (by decide +kernel) rfl rfl rfl rfl jk0 ?_
    cases h
    exact ev_lret (by decide +kernel) rfl rfl rfl rfl
def f_Model_recorded_j58 (k6 : Int32 → Int32 → Int32 → Int64 → Int32 → jW → Option (Int64 × jW)) (x3 : Int32) (x4 : Int32) (x5 : Int32) (x6 : Int64) (x8 : Int32) (w : jW) : Option (Int64 × jW) :=
  Option.bind (f_Model_moveAt x8 3 w) fun q3 =>
  if q3.1 = x3 then
    Option.bind (f_Model_moveAt x8 4 q3.2) fun q4 =>
    if q4.1 = x5 then
      Option.bind (f_Model_moveAt x8 0 q4.2) fun q5 =>
      Option.bind (f_Model_shifted x6 q5.1 x4 1 q5.2) fun q6 =>
      k6 x3 x4 x5 q6.1 (x8 + 1) q6.2
    else
      k6 x3 x4 x5 x6 (x8 + 1) q4.2
  else
    k6 x3 x4 x5 x6 (x8 + 1) q3.2
set_option maxRecDepth 20000 in
theorem t_Model_recorded_j58 {l : Launch} {G : jG} (hG : jX G) {k6 : Int32 → Int32 → Int32 → Int64 → Int32 → jW → Option (Int64 × jW)} (hk6 : ∀ (x3 : Int32) (x4 : Int32) (x5 : Int32) (x6 : Int64) (x8 : Int32) (w : jW) (z : (Int64 × jW)), k6 x3 x4 x5 x6 x8 w = some z → Ev l G (jrm d_Model_recorded 0 0) y_Model_recorded (some (.long z.1), jR0, z.2) 0 0 0 0 6 [some (.ref 93), none, none, some (.int x3), some (.int x4), some (.int x5), some (.long x6), none, some (.int x8)] [] jR0 w) {x3 : Int32} {x4 : Int32} {x5 : Int32} {x6 : Int64} {x8 : Int32} {w : jW} {z : (Int64 × jW)} (h : f_Model_recorded_j58 k6 x3 x4 x5 x6 x8 w = some z) : Ev l G (jrm d_Model_recorded 0 0) y_Model_recorded (some (.long z.1), jR0, z.2) 0 0 0 0 58 [some (.ref 93), none, none, some (.int x3), some (.int x4), some (.int x5), some (.long x6), none, some (.int x8)] [] jR0 w := by
  rw [f_Model_recorded_j58] at h
  refine ev_seg (o := 10) (nL := 9) (q := 62) (xs := [(.aload_n 0, 1, 0, 0, .null), (.iload 8, 2, 8, 0, .null), (.iconst 3, 1, 0, 0, .int 3)]) (L' := [some (.ref 93), none, none, some (.int x3), some (.int x4), some (.int x5), some (.long x6), none, some (.int x8)]) (st' := [.int 3, .int x8, .ref 93]) (w' := w) (g := []) (K := []) (by decide +kernel) rfl rfl rfl rfl jk0 ?_
  obtain ⟨q3, hq3, h⟩ := jbe h
  refine ev_callV (ci := 10) (a := 93) (y2 := y_Model_moveAt) (o := 10) (idx := 69) (d2 := d_Model_moveAt) (n := 2) (mc2 := 0) (ms2 := 0) (As := [.int x8, .int 3]) (st := []) (res2 := (some (.int q3.1), jR0, q3.2)) (by decide +kernel) rfl lk_10_69 mo_Model_moveAt mv_Model_moveAt ⟨Nat.le_of_ble_eq_true rfl, Nat.le_of_ble_eq_true rfl⟩ rfl rfl kz_93 (by decide) rfl (Nat.le_of_ble_eq_true rfl) ⟨Nat.le_refl _, Nat.le_refl _⟩ hG (e_Model_moveAt hG hq3) ?_
  refine ev_seg (o := 10) (nL := 9) (q := 66) (xs := [(.iload_n 3, 1, 3, 0, .null)]) (L' := [some (.ref 93), none, none, some (.int x3), some (.int x4), some (.int x5), some (.long x6), none, some (.int x8)]) (st' := [.int x3, .int q3.1]) (w' := q3.2) (g := []) (K := []) (by decide +kernel) rfl rfl rfl rfl jk0 ?_
  refine ev_icmp_ne (off := 33) (tgt := 99) (by decide +kernel) (by decide) (fun c8 => ?_) (fun c8 => ?_)
  · replace h := jneg c8 h
    refine ev_seg (o := 10) (nL := 9) (q := 6) (xs := [(.iinc 8 1, 3, 8, 0, .int 1), (.goto (-96), 3, 0, 0, .null)]) (L' := [some (.ref 93), none, none, some (.int x3), some (.int x4), some (.int x5), some (.long x6), none, some (.int (x8 + 1))]) (st' := []) (w' := q3.2) (g := []) (K := []) (by decide +kernel) rfl rfl rfl rfl jk0 ?_
    refine ev_mask [true, false, false, true, true, true, true, false, true] ?_
    exact hk6 _ _ _ _ _ _ _ h
  · replace h := jpos c8 h
    refine ev_seg (o := 10) (nL := 9) (q := 73) (xs := [(.aload_n 0, 1, 0, 0, .null), (.iload 8, 2, 8, 0, .null), (.iconst 4, 1, 0, 0, .int 4)]) (L' := [some (.ref 93), none, none, some (.int x3), some (.int x4), some (.int x5), some (.long x6), none, some (.int x8)]) (st' := [.int 4, .int x8, .ref 93]) (w' := q3.2) (g := []) (K := []) (by decide +kernel) rfl rfl rfl rfl jk0 ?_
    obtain ⟨q4, hq4, h⟩ := jbe h
    refine ev_callV (ci := 10) (a := 93) (y2 := y_Model_moveAt) (o := 10) (idx := 69) (d2 := d_Model_moveAt) (n := 2) (mc2 := 0) (ms2 := 0) (As := [.int x8, .int 4]) (st := []) (res2 := (some (.int q4.1), jR0, q4.2)) (by decide +kernel) rfl lk_10_69 mo_Model_moveAt mv_Model_moveAt ⟨Nat.le_of_ble_eq_true rfl, Nat.le_of_ble_eq_true rfl⟩ rfl rfl kz_93 (by decide) rfl (Nat.le_of_ble_eq_true rfl) ⟨Nat.le_refl _, Nat.le_refl _⟩ hG (e_Model_moveAt hG hq4) ?_
    refine ev_seg (o := 10) (nL := 9) (q := 78) (xs := [(.iload 5, 2, 5, 0, .null)]) (L' := [some (.ref 93), none, none, some (.int x3), some (.int x4), some (.int x5), some (.long x6), none, some (.int x8)]) (st' := [.int x5, .int q4.1]) (w' := q4.2) (g := []) (K := []) (by decide +kernel) rfl rfl rfl rfl jk0 ?_
    refine ev_icmp_ne (off := 21) (tgt := 99) (by decide +kernel) (by decide) (fun c7 => ?_) (fun c7 => ?_)
    · replace h := jneg c7 h
      refine ev_seg (o := 10) (nL := 9) (q := 6) (xs := [(.iinc 8 1, 3, 8, 0, .int 1), (.goto (-96), 3, 0, 0, .null)]) (L' := [some (.ref 93), none, none, some (.int x3), some (.int x4), some (.int x5), some (.long x6), none, some (.int (x8 + 1))]) (st' := []) (w' := q4.2) (g := []) (K := []) (by decide +kernel) rfl rfl rfl rfl jk0 ?_
      refine ev_mask [true, false, false, true, true, true, true, false, true] ?_
      exact hk6 _ _ _ _ _ _ _ h
    · replace h := jpos c7 h
      refine ev_seg (o := 10) (nL := 9) (q := 88) (xs := [(.aload_n 0, 1, 0, 0, .null), (.lload 6, 2, 6, 0, .null), (.aload_n 0, 1, 0, 0, .null), (.iload 8, 2, 8, 0, .null), (.iconst 0, 1, 0, 0, .int 0)]) (L' := [some (.ref 93), none, none, some (.int x3), some (.int x4), some (.int x5), some (.long x6), none, some (.int x8)]) (st' := [.int 0, .int x8, .ref 93, .long x6, .ref 93]) (w' := q4.2) (g := []) (K := []) (by decide +kernel) rfl rfl rfl rfl jk0 ?_
      obtain ⟨q5, hq5, h⟩ := jbe h
      refine ev_callV (ci := 10) (a := 93) (y2 := y_Model_moveAt) (o := 10) (idx := 69) (d2 := d_Model_moveAt) (n := 2) (mc2 := 0) (ms2 := 0) (As := [.int x8, .int 0]) (st := [.long x6, .ref 93]) (res2 := (some (.int q5.1), jR0, q5.2)) (by decide +kernel) rfl lk_10_69 mo_Model_moveAt mv_Model_moveAt ⟨Nat.le_of_ble_eq_true rfl, Nat.le_of_ble_eq_true rfl⟩ rfl rfl kz_93 (by decide) rfl (Nat.le_of_ble_eq_true rfl) ⟨Nat.le_refl _, Nat.le_refl _⟩ hG (e_Model_moveAt hG hq5) ?_
      refine ev_seg (o := 10) (nL := 9) (q := 94) (xs := [(.iload 4, 2, 4, 0, .null), (.iconst 1, 1, 0, 0, .int 1)]) (L' := [some (.ref 93), none, none, some (.int x3), some (.int x4), some (.int x5), some (.long x6), none, some (.int x8)]) (st' := [.int 1, .int x4, .int q5.1, .long x6, .ref 93]) (w' := q5.2) (g := []) (K := []) (by decide +kernel) rfl rfl rfl rfl jk0 ?_
      obtain ⟨q6, hq6, h⟩ := jbe h
      refine ev_callV (ci := 10) (a := 93) (y2 := y_Model_shifted) (o := 10) (idx := 282) (d2 := d_Model_shifted) (n := 4) (mc2 := 0) (ms2 := 0) (As := [.long x6, .int q5.1, .int x4, .int 1]) (st := []) (res2 := (some (.long q6.1), jR0, q6.2)) (by decide +kernel) rfl lk_10_282 mo_Model_shifted mv_Model_shifted ⟨Nat.le_of_ble_eq_true rfl, Nat.le_of_ble_eq_true rfl⟩ rfl rfl kz_93 (by decide) rfl (Nat.le_of_ble_eq_true rfl) ⟨Nat.le_refl _, Nat.le_refl _⟩ hG (e_Model_shifted hG hq6) ?_
      refine ev_seg (o := 10) (nL := 9) (q := 6) (xs := [(.lstore 6, 2, 6, 0, .null), (.iinc 8 1, 3, 8, 0, .int 1), (.goto (-96), 3, 0, 0, .null)]) (L' := [some (.ref 93), none, none, some (.int x3), some (.int x4), some (.int x5), some (.long q6.1), none, some (.int (x8 + 1))]) (st' := []) (w' := q6.2) (g := []) (K := []) (by decide +kernel) rfl rfl rfl rfl jk0 ?_
      refine ev_mask [true, false, false, true, true, true, true, false, true] ?_
      exact hk6 _ _ _ _ _ _ _ h
def f_Model_recorded_h6 : Nat → Int32 → Int32 → Int32 → Int64 → Int32 → jW → Option (Int64 × jW)
  | 0, _, _, _, _, _, _ => none
  | n + 1, x3, x4, x5, x6, x8, w =>
  if jal [jin 4 21000] = true then
  if x8 < (w.1 94 (Int32.toNatClampNeg 4)) then
    Option.bind (f_Model_moveAt x8 2 w) fun q2 =>
    if q2.1 = x3 then
      Option.bind (f_Model_moveAt x8 1 q2.2) fun q9 =>
      if q9.1 = x5 then
        Option.bind (f_Model_moveAt x8 0 q9.2) fun q10 =>
        Option.bind (f_Model_shifted x6 q10.1 x4 0 q10.2) fun q11 =>
        f_Model_recorded_j58 (f_Model_recorded_h6 n) x3 x4 x5 q11.1 x8 q11.2
      else
        f_Model_recorded_j58 (f_Model_recorded_h6 n) x3 x4 x5 x6 x8 q9.2
    else
      f_Model_recorded_j58 (f_Model_recorded_h6 n) x3 x4 x5 x6 x8 q2.2
  else
    some (x6, w)
  else none
set_option maxRecDepth 20000 in
theorem t_Model_recorded_h6 {l : Launch} {G : jG} (hG : jX G) : ∀ (n : Nat) (x3 : Int32) (x4 : Int32) (x5 : Int32) (x6 : Int64) (x8 : Int32) (w : jW) (z : (Int64 × jW)), f_Model_recorded_h6 n x3 x4 x5 x6 x8 w = some z → Ev l G (jrm d_Model_recorded 0 0) y_Model_recorded (some (.long z.1), jR0, z.2) 0 0 0 0 6 [some (.ref 93), none, none, some (.int x3), some (.int x4), some (.int x5), some (.long x6), none, some (.int x8)] [] jR0 w := by
  intro n
  induction n with
  | zero => intro x3 x4 x5 x6 x8 w z h; simp only [f_Model_recorded_h6] at h; cases h
  | succ n ih =>
    intro x3 x4 x5 x6 x8 w z h
    rw [f_Model_recorded_h6] at h
    obtain ⟨hg1, h⟩ := jgd h
    refine ev_seg (o := 10) (nL := 9) (q := 14) (xs := [(.iload 8, 2, 8, 0, .null), (.aload_n 0, 1, 0, 0, .null), (.getfield 7, 3, 10, 0, .ref 20), (.iconst 4, 1, 0, 0, .int 4), (.iaload, 1, 0, 0, .null)]) (L' := [some (.ref 93), none, none, some (.int x3), some (.int x4), some (.int x5), some (.long x6), none, some (.int x8)]) (st' := [.int (w.1 94 (Int32.toNatClampNeg 4)), .int x8]) (w' := w) (g := [jin 4 21000]) (K := [(94, 20), (94, 20), (93, 10)]) (by decide +kernel) rfl rfl rfl hg1 (jk1 kz_94 (jk1 kz_94 (jk1 kz_93 jk0))) ?_
    refine ev_icmp_ge (off := 91) (tgt := 105) (by decide +kernel) (by decide) (fun c14 => ?_) (fun c14 => ?_)
    · replace h := jneg c14 h
      refine ev_seg (o := 10) (nL := 9) (q := 107) (xs := [(.lload 6, 2, 6, 0, .null)]) (L' := [some (.ref 93), none, none, some (.int x3), some (.int x4), some (.int x5), some (.long x6), none, some (.int x8)]) (st' := [.long x6]) (w' := w) (g := []) (K := []) (by decide +kernel) rfl rfl rfl rfl jk0 ?_
      cases h
      exact ev_lret (by decide +kernel) rfl rfl rfl rfl
    · replace h := jpos c14 h
      refine ev_seg (o := 10) (nL := 9) (q := 21) (xs := [(.aload_n 0, 1, 0, 0, .null), (.iload 8, 2, 8, 0, .null), (.iconst 2, 1, 0, 0, .int 2)]) (L' := [some (.ref 93), none, none, some (.int x3), some (.int x4), some (.int x5), some (.long x6), none, some (.int x8)]) (st' := [.int 2, .int x8, .ref 93]) (w' := w) (g := []) (K := []) (by decide +kernel) rfl rfl rfl rfl jk0 ?_
      obtain ⟨q2, hq2, h⟩ := jbe h
      refine ev_callV (ci := 10) (a := 93) (y2 := y_Model_moveAt) (o := 10) (idx := 69) (d2 := d_Model_moveAt) (n := 2) (mc2 := 0) (ms2 := 0) (As := [.int x8, .int 2]) (st := []) (res2 := (some (.int q2.1), jR0, q2.2)) (by decide +kernel) rfl lk_10_69 mo_Model_moveAt mv_Model_moveAt ⟨Nat.le_of_ble_eq_true rfl, Nat.le_of_ble_eq_true rfl⟩ rfl rfl kz_93 (by decide) rfl (Nat.le_of_ble_eq_true rfl) ⟨Nat.le_refl _, Nat.le_refl _⟩ hG (e_Model_moveAt hG hq2) ?_
      refine ev_seg (o := 10) (nL := 9) (q := 25) (xs := [(.iload_n 3, 1, 3, 0, .null)]) (L' := [some (.ref 93), none, none, some (.int x3), some (.int x4), some (.int x5), some (.long x6), none, some (.int x8)]) (st' := [.int x3, .int q2.1]) (w' := q2.2) (g := []) (K := []) (by decide +kernel) rfl rfl rfl rfl jk0 ?_
      refine ev_icmp_ne (off := 33) (tgt := 58) (by decide +kernel) (by decide) (fun c13 => ?_) (fun c13 => ?_)
      · replace h := jneg c13 h
        refine ev_mask [true, false, false, true, true, true, true, false, true] ?_
        exact t_Model_recorded_j58 hG ih h
      · replace h := jpos c13 h
        refine ev_seg (o := 10) (nL := 9) (q := 32) (xs := [(.aload_n 0, 1, 0, 0, .null), (.iload 8, 2, 8, 0, .null), (.iconst 1, 1, 0, 0, .int 1)]) (L' := [some (.ref 93), none, none, some (.int x3), some (.int x4), some (.int x5), some (.long x6), none, some (.int x8)]) (st' := [.int 1, .int x8, .ref 93]) (w' := q2.2) (g := []) (K := []) (by decide +kernel) rfl rfl rfl rfl jk0 ?_
        obtain ⟨q9, hq9, h⟩ := jbe h
        refine ev_callV (ci := 10) (a := 93) (y2 := y_Model_moveAt) (o := 10) (idx := 69) (d2 := d_Model_moveAt) (n := 2) (mc2 := 0) (ms2 := 0) (As := [.int x8, .int 1]) (st := []) (res2 := (some (.int q9.1), jR0, q9.2)) (by decide +kernel) rfl lk_10_69 mo_Model_moveAt mv_Model_moveAt ⟨Nat.le_of_ble_eq_true rfl, Nat.le_of_ble_eq_true rfl⟩ rfl rfl kz_93 (by decide) rfl (Nat.le_of_ble_eq_true rfl) ⟨Nat.le_refl _, Nat.le_refl _⟩ hG (e_Model_moveAt hG hq9) ?_
        refine ev_seg (o := 10) (nL := 9) (q := 37) (xs := [(.iload 5, 2, 5, 0, .null)]) (L' := [some (.ref 93), none, none, some (.int x3), some (.int x4), some (.int x5), some (.long x6), none, some (.int x8)]) (st' := [.int x5, .int q9.1]) (w' := q9.2) (g := []) (K := []) (by decide +kernel) rfl rfl rfl rfl jk0 ?_
        refine ev_icmp_ne (off := 21) (tgt := 58) (by decide +kernel) (by decide) (fun c12 => ?_) (fun c12 => ?_)
        · replace h := jneg c12 h
          refine ev_mask [true, false, false, true, true, true, true, false, true] ?_
          exact t_Model_recorded_j58 hG ih h
        · replace h := jpos c12 h
          refine ev_seg (o := 10) (nL := 9) (q := 47) (xs := [(.aload_n 0, 1, 0, 0, .null), (.lload 6, 2, 6, 0, .null), (.aload_n 0, 1, 0, 0, .null), (.iload 8, 2, 8, 0, .null), (.iconst 0, 1, 0, 0, .int 0)]) (L' := [some (.ref 93), none, none, some (.int x3), some (.int x4), some (.int x5), some (.long x6), none, some (.int x8)]) (st' := [.int 0, .int x8, .ref 93, .long x6, .ref 93]) (w' := q9.2) (g := []) (K := []) (by decide +kernel) rfl rfl rfl rfl jk0 ?_
          obtain ⟨q10, hq10, h⟩ := jbe h
          refine ev_callV (ci := 10) (a := 93) (y2 := y_Model_moveAt) (o := 10) (idx := 69) (d2 := d_Model_moveAt) (n := 2) (mc2 := 0) (ms2 := 0) (As := [.int x8, .int 0]) (st := [.long x6, .ref 93]) (res2 := (some (.int q10.1), jR0, q10.2)) (by decide +kernel) rfl lk_10_69 mo_Model_moveAt mv_Model_moveAt ⟨Nat.le_of_ble_eq_true rfl, Nat.le_of_ble_eq_true rfl⟩ rfl rfl kz_93 (by decide) rfl (Nat.le_of_ble_eq_true rfl) ⟨Nat.le_refl _, Nat.le_refl _⟩ hG (e_Model_moveAt hG hq10) ?_
          refine ev_seg (o := 10) (nL := 9) (q := 53) (xs := [(.iload 4, 2, 4, 0, .null), (.iconst 0, 1, 0, 0, .int 0)]) (L' := [some (.ref 93), none, none, some (.int x3), some (.int x4), some (.int x5), some (.long x6), none, some (.int x8)]) (st' := [.int 0, .int x4, .int q10.1, .long x6, .ref 93]) (w' := q10.2) (g := []) (K := []) (by decide +kernel) rfl rfl rfl rfl jk0 ?_
          obtain ⟨q11, hq11, h⟩ := jbe h
          refine ev_callV (ci := 10) (a := 93) (y2 := y_Model_shifted) (o := 10) (idx := 282) (d2 := d_Model_shifted) (n := 4) (mc2 := 0) (ms2 := 0) (As := [.long x6, .int q10.1, .int x4, .int 0]) (st := []) (res2 := (some (.long q11.1), jR0, q11.2)) (by decide +kernel) rfl lk_10_282 mo_Model_shifted mv_Model_shifted ⟨Nat.le_of_ble_eq_true rfl, Nat.le_of_ble_eq_true rfl⟩ rfl rfl kz_93 (by decide) rfl (Nat.le_of_ble_eq_true rfl) ⟨Nat.le_refl _, Nat.le_refl _⟩ hG (e_Model_shifted hG hq11) ?_
          refine ev_seg (o := 10) (nL := 9) (q := 58) (xs := [(.lstore 6, 2, 6, 0, .null)]) (L' := [some (.ref 93), none, none, some (.int x3), some (.int x4), some (.int x5), some (.long q11.1), none, some (.int x8)]) (st' := []) (w' := q11.2) (g := []) (K := []) (by decide +kernel) rfl rfl rfl rfl jk0 ?_
          refine ev_mask [true, false, false, true, true, true, true, false, true] ?_
          exact t_Model_recorded_j58 hG ih h
def f_Model_recorded (x1 : Int64) (x3 : Int32) (x4 : Int32) (x5 : Int32) (w : jW) : Option (Int64 × jW) :=
  f_Model_recorded_h6 jfu x3 x4 x5 x1 0 w
set_option maxRecDepth 20000 in
theorem e_Model_recorded {l : Launch} {G : jG} (hG : jX G) {x1 : Int64} {x3 : Int32} {x4 : Int32} {x5 : Int32} {w : jW} {z : (Int64 × jW)} (h : f_Model_recorded x1 x3 x4 x5 w = some z) : Ct l G y_Model_recorded d_Model_recorded 0 0 [.ref 93, .long x1, .int x3, .int x4, .int x5] jR0 w (some (.long z.1), jR0, z.2) := by
  rw [f_Model_recorded] at h
  refine Ct.of (L := [some (.ref 93), some (.long x1), none, some (.int x3), some (.int x4), some (.int x5), none, none, none]) (by decide) (Nat.le_of_ble_eq_true rfl) rfl ?_
  refine ev_seg (o := 10) (nL := 9) (q := 6) (xs := [(.lload_n 1, 1, 1, 0, .null), (.lstore 6, 2, 6, 0, .null), (.iconst 0, 1, 0, 0, .int 0), (.istore 8, 2, 8, 0, .null)]) (L' := [some (.ref 93), some (.long x1), none, some (.int x3), some (.int x4), some (.int x5), some (.long x1), none, some (.int 0)]) (st' := []) (w' := w) (g := []) (K := []) (by decide +kernel) rfl rfl rfl rfl jk0 ?_
  refine ev_mask [true, false, false, true, true, true, true, false, true] ?_
  exact t_Model_recorded_h6 hG jfu _ _ _ _ _ _ _ h
def f_Model_span (x0 : Int32) (x1 : Int32) (w : jW) : Option (Int64 × jW) :=
  if x1 < x0 then
    some (0, w)
  else
    some ((((((1 : Int64) <<< (Int32.toInt64 ((x1 - x0) + 1) &&& 63)) - 1) <<< (Int32.toInt64 x0 &&& 63)) &&& 2199023255551), w)
set_option maxRecDepth 20000 in
theorem e_Model_span {l : Launch} {G : jG} (hG : jX G) {x0 : Int32} {x1 : Int32} {w : jW} {z : (Int64 × jW)} (h : f_Model_span x0 x1 w = some z) : Ct l G y_Model_span d_Model_span 0 0 [.int x0, .int x1] jR0 w (some (.long z.1), jR0, z.2) := by
  rw [f_Model_span] at h
  refine Ct.of (L := [some (.int x0), some (.int x1)]) (by decide) (Nat.le_of_ble_eq_true rfl) rfl ?_
  refine ev_seg (o := 10) (nL := 2) (q := 2) (xs := [(.iload_n 1, 1, 1, 0, .null), (.iload_n 0, 1, 0, 0, .null)]) (L' := [some (.int x0), some (.int x1)]) (st' := [.int x0, .int x1]) (w' := w) (g := []) (K := []) (by decide +kernel) rfl rfl rfl rfl jk0 ?_
  refine ev_icmp_ge (off := 7) (tgt := 9) (by decide +kernel) (by decide) (fun c1 => ?_) (fun c1 => ?_)
  · replace h := jneg c1 h
    refine ev_seg (o := 10) (nL := 2) (q := 24) (xs := [(.lconst 1, 1, 0, 0, .long 1), (.iload_n 1, 1, 1, 0, .null), (.iload_n 0, 1, 0, 0, .null), (.isub, 1, 0, 0, .null), (.iconst 1, 1, 0, 0, .int 1), (.iadd, 1, 0, 0, .null), (.lshl, 1, 0, 0, .null), (.lconst 1, 1, 0, 0, .long 1), (.lsub, 1, 0, 0, .null), (.iload_n 0, 1, 0, 0, .null), (.lshl, 1, 0, 0, .null), (.ldc2_w 280, 3, 0, 0, .long 2199023255551), (.land, 1, 0, 0, .null)]) (L' := [some (.int x0), some (.int x1)]) (st' := [.long (((((1 : Int64) <<< (Int32.toInt64 ((x1 - x0) + 1) &&& 63)) - 1) <<< (Int32.toInt64 x0 &&& 63)) &&& 2199023255551)]) (w' := w) (g := []) (K := []) (by decide +kernel) rfl rfl rfl rfl jk0 ?_
    cases h
    exact ev_lret (by decide +kernel) rfl rfl rfl rfl
  · replace h := jpos c1 h
    refine ev_seg (o := 10) (nL := 2) (q := 24) (xs := [(.lconst 0, 1, 0, 0, .long 0), (.goto 18, 3, 0, 0, .null)]) (L' := [some (.int x0), some (.int x1)]) (st' := [.long 0]) (w' := w) (g := []) (K := []) (by decide +kernel) rfl rfl rfl rfl jk0 ?_
    cases h
    exact ev_lret (by decide +kernel) rfl rfl rfl rfl
def f_Model_seen_h122 : Nat → Int32 → Int32 → Int32 → Int64 → Int32 → jW → Option (Int64 × jW)
  | 0, _, _, _, _, _, _ => none
  | n + 1, x3, x4, x5, x7, x9, w =>
  if jal [jin 9 21000] = true then
  if x9 < (w.1 94 (Int32.toNatClampNeg 9)) then
    if jal [jin 16 21000, jin (20 + (4 * x4)) 21000] = true then
    if (w.1 94 (Int32.toNatClampNeg (20 + (4 * x4)))) < (w.1 94 (Int32.toNatClampNeg 16)) then
      some (x7, w)
    else
      if jal [jin (12480 + (4 * x9)) 21000] = true then
      if (w.1 94 (Int32.toNatClampNeg (12480 + (4 * x9)))) = x3 then
        if jal [jin ((12480 + (4 * x9)) + 1) 21000] = true then
        if (w.1 94 (Int32.toNatClampNeg ((12480 + (4 * x9)) + 1))) = (x5 + 1) then
          if jal [jin ((12480 + (4 * x9)) + 2) 21000] = true then
          Option.bind (f_Model_span 0 (w.1 94 (Int32.toNatClampNeg ((12480 + (4 * x9)) + 2))) w) fun q7 =>
          (f_Model_seen_h122 n) x3 x4 x5 (x7 &&& q7.1) (x9 + 1) q7.2
          else none
        else
          (f_Model_seen_h122 n) x3 x4 x5 x7 (x9 + 1) w
        else none
      else
        (f_Model_seen_h122 n) x3 x4 x5 x7 (x9 + 1) w
      else none
    else none
  else
    some (x7, w)
  else none
set_option maxRecDepth 20000 in
theorem t_Model_seen_h122 {l : Launch} {G : jG} (hG : jX G) : ∀ (n : Nat) (x3 : Int32) (x4 : Int32) (x5 : Int32) (x7 : Int64) (x9 : Int32) (w : jW) (z : (Int64 × jW)), f_Model_seen_h122 n x3 x4 x5 x7 x9 w = some z → Ev l G (jrm d_Model_seen 0 0) y_Model_seen (some (.long z.1), jR0, z.2) 0 0 0 0 122 [some (.ref 93), none, none, some (.int x3), some (.int x4), some (.int x5), none, some (.long x7), none, some (.int x9), none] [] jR0 w := by
  intro n
  induction n with
  | zero => intro x3 x4 x5 x7 x9 w z h; simp only [f_Model_seen_h122] at h; cases h
  | succ n ih =>
    intro x3 x4 x5 x7 x9 w z h
    rw [f_Model_seen_h122] at h
    obtain ⟨hg2, h⟩ := jgd h
    refine ev_seg (o := 10) (nL := 11) (q := 131) (xs := [(.iload 9, 2, 9, 0, .null), (.aload_n 0, 1, 0, 0, .null), (.getfield 7, 3, 10, 0, .ref 20), (.bipush 9, 2, 0, 0, .int 9), (.iaload, 1, 0, 0, .null)]) (L' := [some (.ref 93), none, none, some (.int x3), some (.int x4), some (.int x5), none, some (.long x7), none, some (.int x9), none]) (st' := [.int (w.1 94 (Int32.toNatClampNeg 9)), .int x9]) (w' := w) (g := [jin 9 21000]) (K := [(94, 20), (94, 20), (93, 10)]) (by decide +kernel) rfl rfl rfl hg2 (jk1 kz_94 (jk1 kz_94 (jk1 kz_93 jk0))) ?_
    refine ev_icmp_ge (off := 86) (tgt := 217) (by decide +kernel) (by decide) (fun c11 => ?_) (fun c11 => ?_)
    · replace h := jneg c11 h
      refine ev_seg (o := 10) (nL := 11) (q := 219) (xs := [(.lload 7, 2, 7, 0, .null)]) (L' := [some (.ref 93), none, none, some (.int x3), some (.int x4), some (.int x5), none, some (.long x7), none, some (.int x9), none]) (st' := [.long x7]) (w' := w) (g := []) (K := []) (by decide +kernel) rfl rfl rfl rfl jk0 ?_
      cases h
      exact ev_lret (by decide +kernel) rfl rfl rfl rfl
    · replace h := jpos c11 h
      obtain ⟨hg3, h⟩ := jgd h
      refine ev_seg (o := 10) (nL := 11) (q := 153) (xs := [(.aload_n 0, 1, 0, 0, .null), (.getfield 7, 3, 10, 0, .ref 20), (.bipush 20, 2, 0, 0, .int 20), (.iconst 4, 1, 0, 0, .int 4), (.iload 4, 2, 4, 0, .null), (.imul, 1, 0, 0, .null), (.iadd, 1, 0, 0, .null), (.iaload, 1, 0, 0, .null), (.aload_n 0, 1, 0, 0, .null), (.getfield 7, 3, 10, 0, .ref 20), (.bipush 16, 2, 0, 0, .int 16), (.iaload, 1, 0, 0, .null)]) (L' := [some (.ref 93), none, none, some (.int x3), some (.int x4), some (.int x5), none, some (.long x7), none, some (.int x9), none]) (st' := [.int (w.1 94 (Int32.toNatClampNeg 16)), .int (w.1 94 (Int32.toNatClampNeg (20 + (4 * x4))))]) (w' := w) (g := [jin 16 21000, jin (20 + (4 * x4)) 21000]) (K := [(94, 20), (94, 20), (93, 10), (94, 20), (94, 20), (93, 10)]) (by decide +kernel) rfl rfl rfl hg3 (jk1 kz_94 (jk1 kz_94 (jk1 kz_93 (jk1 kz_94 (jk1 kz_94 (jk1 kz_93 jk0)))))) ?_
      refine ev_icmp_lt (off := 64) (tgt := 217) (by decide +kernel) (by decide) (fun c10 => ?_) (fun c10 => ?_)
      · replace h := jpos c10 h
        refine ev_seg (o := 10) (nL := 11) (q := 219) (xs := [(.lload 7, 2, 7, 0, .null)]) (L' := [some (.ref 93), none, none, some (.int x3), some (.int x4), some (.int x5), none, some (.long x7), none, some (.int x9), none]) (st' := [.long x7]) (w' := w) (g := []) (K := []) (by decide +kernel) rfl rfl rfl rfl jk0 ?_
        cases h
        exact ev_lret (by decide +kernel) rfl rfl rfl rfl
      · replace h := jneg c10 h
        obtain ⟨hg4, h⟩ := jgd h
        refine ev_seg (o := 10) (nL := 11) (q := 174) (xs := [(.sipush 12480, 3, 0, 0, .int 12480), (.iconst 4, 1, 0, 0, .int 4), (.iload 9, 2, 9, 0, .null), (.imul, 1, 0, 0, .null), (.iadd, 1, 0, 0, .null), (.istore 10, 2, 10, 0, .null), (.aload_n 0, 1, 0, 0, .null), (.getfield 7, 3, 10, 0, .ref 20), (.iload 10, 2, 10, 0, .null), (.iaload, 1, 0, 0, .null), (.iload_n 3, 1, 3, 0, .null)]) (L' := [some (.ref 93), none, none, some (.int x3), some (.int x4), some (.int x5), none, some (.long x7), none, some (.int x9), some (.int (12480 + (4 * x9)))]) (st' := [.int x3, .int (w.1 94 (Int32.toNatClampNeg (12480 + (4 * x9))))]) (w' := w) (g := [jin (12480 + (4 * x9)) 21000]) (K := [(94, 20), (94, 20), (93, 10)]) (by decide +kernel) rfl rfl rfl hg4 (jk1 kz_94 (jk1 kz_94 (jk1 kz_93 jk0))) ?_
        refine ev_icmp_ne (off := 37) (tgt := 211) (by decide +kernel) (by decide) (fun c9 => ?_) (fun c9 => ?_)
        · replace h := jneg c9 h
          refine ev_seg (o := 10) (nL := 11) (q := 122) (xs := [(.iinc 9 1, 3, 9, 0, .int 1), (.goto (-92), 3, 0, 0, .null)]) (L' := [some (.ref 93), none, none, some (.int x3), some (.int x4), some (.int x5), none, some (.long x7), none, some (.int (x9 + 1)), some (.int (12480 + (4 * x9)))]) (st' := []) (w' := w) (g := []) (K := []) (by decide +kernel) rfl rfl rfl rfl jk0 ?_
          refine ev_mask [true, false, false, true, true, true, false, true, false, true, false] ?_
          exact ih _ _ _ _ _ _ _ h
        · replace h := jpos c9 h
          obtain ⟨hg5, h⟩ := jgd h
          refine ev_seg (o := 10) (nL := 11) (q := 190) (xs := [(.aload_n 0, 1, 0, 0, .null), (.getfield 7, 3, 10, 0, .ref 20), (.iload 10, 2, 10, 0, .null), (.iconst 1, 1, 0, 0, .int 1), (.iadd, 1, 0, 0, .null), (.iaload, 1, 0, 0, .null), (.iload 5, 2, 5, 0, .null), (.iconst 1, 1, 0, 0, .int 1), (.iadd, 1, 0, 0, .null)]) (L' := [some (.ref 93), none, none, some (.int x3), some (.int x4), some (.int x5), none, some (.long x7), none, some (.int x9), some (.int (12480 + (4 * x9)))]) (st' := [.int (x5 + 1), .int (w.1 94 (Int32.toNatClampNeg ((12480 + (4 * x9)) + 1)))]) (w' := w) (g := [jin ((12480 + (4 * x9)) + 1) 21000]) (K := [(94, 20), (94, 20), (93, 10)]) (by decide +kernel) rfl rfl rfl hg5 (jk1 kz_94 (jk1 kz_94 (jk1 kz_93 jk0))) ?_
          refine ev_icmp_ne (off := 21) (tgt := 211) (by decide +kernel) (by decide) (fun c8 => ?_) (fun c8 => ?_)
          · replace h := jneg c8 h
            refine ev_seg (o := 10) (nL := 11) (q := 122) (xs := [(.iinc 9 1, 3, 9, 0, .int 1), (.goto (-92), 3, 0, 0, .null)]) (L' := [some (.ref 93), none, none, some (.int x3), some (.int x4), some (.int x5), none, some (.long x7), none, some (.int (x9 + 1)), some (.int (12480 + (4 * x9)))]) (st' := []) (w' := w) (g := []) (K := []) (by decide +kernel) rfl rfl rfl rfl jk0 ?_
            refine ev_mask [true, false, false, true, true, true, false, true, false, true, false] ?_
            exact ih _ _ _ _ _ _ _ h
          · replace h := jpos c8 h
            obtain ⟨hg6, h⟩ := jgd h
            refine ev_seg (o := 10) (nL := 11) (q := 205) (xs := [(.lload 7, 2, 7, 0, .null), (.iconst 0, 1, 0, 0, .int 0), (.aload_n 0, 1, 0, 0, .null), (.getfield 7, 3, 10, 0, .ref 20), (.iload 10, 2, 10, 0, .null), (.iconst 2, 1, 0, 0, .int 2), (.iadd, 1, 0, 0, .null), (.iaload, 1, 0, 0, .null)]) (L' := [some (.ref 93), none, none, some (.int x3), some (.int x4), some (.int x5), none, some (.long x7), none, some (.int x9), some (.int (12480 + (4 * x9)))]) (st' := [.int (w.1 94 (Int32.toNatClampNeg ((12480 + (4 * x9)) + 2))), .int 0, .long x7]) (w' := w) (g := [jin ((12480 + (4 * x9)) + 2) 21000]) (K := [(94, 20), (94, 20), (93, 10)]) (by decide +kernel) rfl rfl rfl hg6 (jk1 kz_94 (jk1 kz_94 (jk1 kz_93 jk0))) ?_
            obtain ⟨q7, hq7, h⟩ := jbe h
            refine ev_callS (y2 := y_Model_span) (o := 10) (idx := 286) (d2 := d_Model_span) (n := 2) (mc2 := 0) (ms2 := 0) (As := [.int 0, .int (w.1 94 (Int32.toNatClampNeg ((12480 + (4 * x9)) + 2)))]) (st := [.long x7]) (res2 := (some (.long q7.1), jR0, q7.2)) (by decide +kernel) rfl lk_10_286 mo_Model_span ms_Model_span ⟨Nat.le_of_ble_eq_true rfl, Nat.le_of_ble_eq_true rfl⟩ rfl rfl (Nat.le_of_ble_eq_true rfl) ⟨Nat.le_refl _, Nat.le_refl _⟩ hG (e_Model_span hG hq7) ?_
            refine ev_seg (o := 10) (nL := 11) (q := 122) (xs := [(.land, 1, 0, 0, .null), (.lstore 7, 2, 7, 0, .null), (.iinc 9 1, 3, 9, 0, .int 1), (.goto (-92), 3, 0, 0, .null)]) (L' := [some (.ref 93), none, none, some (.int x3), some (.int x4), some (.int x5), none, some (.long (x7 &&& q7.1)), none, some (.int (x9 + 1)), some (.int (12480 + (4 * x9)))]) (st' := []) (w' := q7.2) (g := []) (K := []) (by decide +kernel) rfl rfl rfl rfl jk0 ?_
            refine ev_mask [true, false, false, true, true, true, false, true, false, true, false] ?_
            exact ih _ _ _ _ _ _ _ h
def f_Model_seen_h18 : Nat → Int32 → Int32 → Int32 → Int64 → Int32 → jW → Option (Int64 × jW)
  | 0, _, _, _, _, _, _ => none
  | n + 1, x3, x4, x5, x7, x9, w =>
  if jal [jin 8 21000] = true then
  if x9 < (w.1 94 (Int32.toNatClampNeg 8)) then
    if jal [jin ((11280 + (12 * x9)) + 1) 21000] = true then
    if (w.1 94 (Int32.toNatClampNeg ((11280 + (12 * x9)) + 1))) = x3 then
      if jal [jin ((11280 + (12 * x9)) + 2) 21000] = true then
      if (w.1 94 (Int32.toNatClampNeg ((11280 + (12 * x9)) + 2))) = (x5 + 1) then
        if jal [jin ((11280 + (12 * x9)) + 7) 21000, jin (((11280 + (12 * x9)) + 3) + x4) 21000, jin (((11280 + (12 * x9)) + 3) + x4) 21000] = true then
        Option.bind (f_Model_span (w.1 94 (Int32.toNatClampNeg (((11280 + (12 * x9)) + 3) + x4))) ((w.1 94 (Int32.toNatClampNeg (((11280 + (12 * x9)) + 3) + x4))) + (w.1 94 (Int32.toNatClampNeg ((11280 + (12 * x9)) + 7)))) w) fun q15 =>
        (f_Model_seen_h18 n) x3 x4 x5 (x7 &&& q15.1) (x9 + 1) q15.2
        else none
      else
        (f_Model_seen_h18 n) x3 x4 x5 x7 (x9 + 1) w
      else none
    else
      (f_Model_seen_h18 n) x3 x4 x5 x7 (x9 + 1) w
    else none
  else
    f_Model_seen_h122 jfu x3 x4 x5 x7 0 w
  else none
set_option maxRecDepth 20000 in
theorem t_Model_seen_h18 {l : Launch} {G : jG} (hG : jX G) : ∀ (n : Nat) (x3 : Int32) (x4 : Int32) (x5 : Int32) (x7 : Int64) (x9 : Int32) (w : jW) (z : (Int64 × jW)), f_Model_seen_h18 n x3 x4 x5 x7 x9 w = some z → Ev l G (jrm d_Model_seen 0 0) y_Model_seen (some (.long z.1), jR0, z.2) 0 0 0 0 18 [some (.ref 93), none, none, some (.int x3), some (.int x4), some (.int x5), none, some (.long x7), none, some (.int x9), none] [] jR0 w := by
  intro n
  induction n with
  | zero => intro x3 x4 x5 x7 x9 w z h; simp only [f_Model_seen_h18] at h; cases h
  | succ n ih =>
    intro x3 x4 x5 x7 x9 w z h
    rw [f_Model_seen_h18] at h
    obtain ⟨hg1, h⟩ := jgd h
    refine ev_seg (o := 10) (nL := 11) (q := 27) (xs := [(.iload 9, 2, 9, 0, .null), (.aload_n 0, 1, 0, 0, .null), (.getfield 7, 3, 10, 0, .ref 20), (.bipush 8, 2, 0, 0, .int 8), (.iaload, 1, 0, 0, .null)]) (L' := [some (.ref 93), none, none, some (.int x3), some (.int x4), some (.int x5), none, some (.long x7), none, some (.int x9), none]) (st' := [.int (w.1 94 (Int32.toNatClampNeg 8)), .int x9]) (w' := w) (g := [jin 8 21000]) (K := [(94, 20), (94, 20), (93, 10)]) (by decide +kernel) rfl rfl rfl hg1 (jk1 kz_94 (jk1 kz_94 (jk1 kz_93 jk0))) ?_
    refine ev_icmp_ge (off := 92) (tgt := 119) (by decide +kernel) (by decide) (fun c18 => ?_) (fun c18 => ?_)
    · replace h := jneg c18 h
      refine ev_seg (o := 10) (nL := 11) (q := 122) (xs := [(.iconst 0, 1, 0, 0, .int 0), (.istore 9, 2, 9, 0, .null)]) (L' := [some (.ref 93), none, none, some (.int x3), some (.int x4), some (.int x5), none, some (.long x7), none, some (.int 0), none]) (st' := []) (w' := w) (g := []) (K := []) (by decide +kernel) rfl rfl rfl rfl jk0 ?_
      refine ev_mask [true, false, false, true, true, true, false, true, false, true, false] ?_
      exact t_Model_seen_h122 hG jfu _ _ _ _ _ _ _ h
    · replace h := jpos c18 h
      obtain ⟨hg12, h⟩ := jgd h
      refine ev_seg (o := 10) (nL := 11) (q := 51) (xs := [(.sipush 11280, 3, 0, 0, .int 11280), (.bipush 12, 2, 0, 0, .int 12), (.iload 9, 2, 9, 0, .null), (.imul, 1, 0, 0, .null), (.iadd, 1, 0, 0, .null), (.istore 10, 2, 10, 0, .null), (.aload_n 0, 1, 0, 0, .null), (.getfield 7, 3, 10, 0, .ref 20), (.iload 10, 2, 10, 0, .null), (.iconst 1, 1, 0, 0, .int 1), (.iadd, 1, 0, 0, .null), (.iaload, 1, 0, 0, .null), (.iload_n 3, 1, 3, 0, .null)]) (L' := [some (.ref 93), none, none, some (.int x3), some (.int x4), some (.int x5), none, some (.long x7), none, some (.int x9), some (.int (11280 + (12 * x9)))]) (st' := [.int x3, .int (w.1 94 (Int32.toNatClampNeg ((11280 + (12 * x9)) + 1)))]) (w' := w) (g := [jin ((11280 + (12 * x9)) + 1) 21000]) (K := [(94, 20), (94, 20), (93, 10)]) (by decide +kernel) rfl rfl rfl hg12 (jk1 kz_94 (jk1 kz_94 (jk1 kz_93 jk0))) ?_
      refine ev_icmp_ne (off := 62) (tgt := 113) (by decide +kernel) (by decide) (fun c17 => ?_) (fun c17 => ?_)
      · replace h := jneg c17 h
        refine ev_seg (o := 10) (nL := 11) (q := 18) (xs := [(.iinc 9 1, 3, 9, 0, .int 1), (.goto (-98), 3, 0, 0, .null)]) (L' := [some (.ref 93), none, none, some (.int x3), some (.int x4), some (.int x5), none, some (.long x7), none, some (.int (x9 + 1)), some (.int (11280 + (12 * x9)))]) (st' := []) (w' := w) (g := []) (K := []) (by decide +kernel) rfl rfl rfl rfl jk0 ?_
        refine ev_mask [true, false, false, true, true, true, false, true, false, true, false] ?_
        exact ih _ _ _ _ _ _ _ h
      · replace h := jpos c17 h
        obtain ⟨hg13, h⟩ := jgd h
        refine ev_seg (o := 10) (nL := 11) (q := 67) (xs := [(.aload_n 0, 1, 0, 0, .null), (.getfield 7, 3, 10, 0, .ref 20), (.iload 10, 2, 10, 0, .null), (.iconst 2, 1, 0, 0, .int 2), (.iadd, 1, 0, 0, .null), (.iaload, 1, 0, 0, .null), (.iload 5, 2, 5, 0, .null), (.iconst 1, 1, 0, 0, .int 1), (.iadd, 1, 0, 0, .null)]) (L' := [some (.ref 93), none, none, some (.int x3), some (.int x4), some (.int x5), none, some (.long x7), none, some (.int x9), some (.int (11280 + (12 * x9)))]) (st' := [.int (x5 + 1), .int (w.1 94 (Int32.toNatClampNeg ((11280 + (12 * x9)) + 2)))]) (w' := w) (g := [jin ((11280 + (12 * x9)) + 2) 21000]) (K := [(94, 20), (94, 20), (93, 10)]) (by decide +kernel) rfl rfl rfl hg13 (jk1 kz_94 (jk1 kz_94 (jk1 kz_93 jk0))) ?_
        refine ev_icmp_ne (off := 46) (tgt := 113) (by decide +kernel) (by decide) (fun c16 => ?_) (fun c16 => ?_)
        · replace h := jneg c16 h
          refine ev_seg (o := 10) (nL := 11) (q := 18) (xs := [(.iinc 9 1, 3, 9, 0, .int 1), (.goto (-98), 3, 0, 0, .null)]) (L' := [some (.ref 93), none, none, some (.int x3), some (.int x4), some (.int x5), none, some (.long x7), none, some (.int (x9 + 1)), some (.int (11280 + (12 * x9)))]) (st' := []) (w' := w) (g := []) (K := []) (by decide +kernel) rfl rfl rfl rfl jk0 ?_
          refine ev_mask [true, false, false, true, true, true, false, true, false, true, false] ?_
          exact ih _ _ _ _ _ _ _ h
        · replace h := jpos c16 h
          obtain ⟨hg14, h⟩ := jgd h
          refine ev_seg (o := 10) (nL := 11) (q := 107) (xs := [(.lload 7, 2, 7, 0, .null), (.aload_n 0, 1, 0, 0, .null), (.getfield 7, 3, 10, 0, .ref 20), (.iload 10, 2, 10, 0, .null), (.iconst 3, 1, 0, 0, .int 3), (.iadd, 1, 0, 0, .null), (.iload 4, 2, 4, 0, .null), (.iadd, 1, 0, 0, .null), (.iaload, 1, 0, 0, .null), (.aload_n 0, 1, 0, 0, .null), (.getfield 7, 3, 10, 0, .ref 20), (.iload 10, 2, 10, 0, .null), (.iconst 3, 1, 0, 0, .int 3), (.iadd, 1, 0, 0, .null), (.iload 4, 2, 4, 0, .null), (.iadd, 1, 0, 0, .null), (.iaload, 1, 0, 0, .null), (.aload_n 0, 1, 0, 0, .null), (.getfield 7, 3, 10, 0, .ref 20), (.iload 10, 2, 10, 0, .null), (.bipush 7, 2, 0, 0, .int 7), (.iadd, 1, 0, 0, .null), (.iaload, 1, 0, 0, .null), (.iadd, 1, 0, 0, .null)]) (L' := [some (.ref 93), none, none, some (.int x3), some (.int x4), some (.int x5), none, some (.long x7), none, some (.int x9), some (.int (11280 + (12 * x9)))]) (st' := [.int ((w.1 94 (Int32.toNatClampNeg (((11280 + (12 * x9)) + 3) + x4))) + (w.1 94 (Int32.toNatClampNeg ((11280 + (12 * x9)) + 7)))), .int (w.1 94 (Int32.toNatClampNeg (((11280 + (12 * x9)) + 3) + x4))), .long x7]) (w' := w) (g := [jin ((11280 + (12 * x9)) + 7) 21000, jin (((11280 + (12 * x9)) + 3) + x4) 21000, jin (((11280 + (12 * x9)) + 3) + x4) 21000]) (K := [(94, 20), (94, 20), (93, 10), (94, 20), (94, 20), (93, 10), (94, 20), (94, 20), (93, 10)]) (by decide +kernel) rfl rfl rfl hg14 (jk1 kz_94 (jk1 kz_94 (jk1 kz_93 (jk1 kz_94 (jk1 kz_94 (jk1 kz_93 (jk1 kz_94 (jk1 kz_94 (jk1 kz_93 jk0))))))))) ?_
          obtain ⟨q15, hq15, h⟩ := jbe h
          refine ev_callS (y2 := y_Model_span) (o := 10) (idx := 286) (d2 := d_Model_span) (n := 2) (mc2 := 0) (ms2 := 0) (As := [.int (w.1 94 (Int32.toNatClampNeg (((11280 + (12 * x9)) + 3) + x4))), .int ((w.1 94 (Int32.toNatClampNeg (((11280 + (12 * x9)) + 3) + x4))) + (w.1 94 (Int32.toNatClampNeg ((11280 + (12 * x9)) + 7))))]) (st := [.long x7]) (res2 := (some (.long q15.1), jR0, q15.2)) (by decide +kernel) rfl lk_10_286 mo_Model_span ms_Model_span ⟨Nat.le_of_ble_eq_true rfl, Nat.le_of_ble_eq_true rfl⟩ rfl rfl (Nat.le_of_ble_eq_true rfl) ⟨Nat.le_refl _, Nat.le_refl _⟩ hG (e_Model_span hG hq15) ?_
          refine ev_seg (o := 10) (nL := 11) (q := 18) (xs := [(.land, 1, 0, 0, .null), (.lstore 7, 2, 7, 0, .null), (.iinc 9 1, 3, 9, 0, .int 1), (.goto (-98), 3, 0, 0, .null)]) (L' := [some (.ref 93), none, none, some (.int x3), some (.int x4), some (.int x5), none, some (.long (x7 &&& q15.1)), none, some (.int (x9 + 1)), some (.int (11280 + (12 * x9)))]) (st' := []) (w' := q15.2) (g := []) (K := []) (by decide +kernel) rfl rfl rfl rfl jk0 ?_
          refine ev_mask [true, false, false, true, true, true, false, true, false, true, false] ?_
          exact ih _ _ _ _ _ _ _ h
def f_Model_seen (x1 : Int64) (x3 : Int32) (x4 : Int32) (x5 : Int32) (x6 : Int32) (w : jW) : Option (Int64 × jW) :=
  if (x5 + 1) ≤ x6 then
    f_Model_seen_h18 jfu x3 x4 x5 x1 0 w
  else
    some (x1, w)
set_option maxRecDepth 20000 in
theorem e_Model_seen {l : Launch} {G : jG} (hG : jX G) {x1 : Int64} {x3 : Int32} {x4 : Int32} {x5 : Int32} {x6 : Int32} {w : jW} {z : (Int64 × jW)} (h : f_Model_seen x1 x3 x4 x5 x6 w = some z) : Ct l G y_Model_seen d_Model_seen 0 0 [.ref 93, .long x1, .int x3, .int x4, .int x5, .int x6] jR0 w (some (.long z.1), jR0, z.2) := by
  rw [f_Model_seen] at h
  refine Ct.of (L := [some (.ref 93), some (.long x1), none, some (.int x3), some (.int x4), some (.int x5), some (.int x6), none, none, none, none]) (by decide) (Nat.le_of_ble_eq_true rfl) rfl ?_
  refine ev_seg (o := 10) (nL := 11) (q := 9) (xs := [(.lload_n 1, 1, 1, 0, .null), (.lstore 7, 2, 7, 0, .null), (.iload 5, 2, 5, 0, .null), (.iconst 1, 1, 0, 0, .int 1), (.iadd, 1, 0, 0, .null), (.iload 6, 2, 6, 0, .null)]) (L' := [some (.ref 93), some (.long x1), none, some (.int x3), some (.int x4), some (.int x5), some (.int x6), some (.long x1), none, none, none]) (st' := [.int x6, .int (x5 + 1)]) (w' := w) (g := []) (K := []) (by decide +kernel) rfl rfl rfl rfl jk0 ?_
  refine ev_icmp_le (off := 6) (tgt := 15) (by decide +kernel) (by decide) (fun c19 => ?_) (fun c19 => ?_)
  · replace h := jpos c19 h
    refine ev_seg (o := 10) (nL := 11) (q := 18) (xs := [(.iconst 0, 1, 0, 0, .int 0), (.istore 9, 2, 9, 0, .null)]) (L' := [some (.ref 93), some (.long x1), none, some (.int x3), some (.int x4), some (.int x5), some (.int x6), some (.long x1), none, some (.int 0), none]) (st' := []) (w' := w) (g := []) (K := []) (by decide +kernel) rfl rfl rfl rfl jk0 ?_
    refine ev_mask [true, false, false, true, true, true, false, true, false, true, false] ?_
    exact t_Model_seen_h18 hG jfu _ _ _ _ _ _ _ h
  · replace h := jneg c19 h
    refine ev_seg (o := 10) (nL := 11) (q := 14) (xs := [(.lload 7, 2, 7, 0, .null)]) (L' := [some (.ref 93), some (.long x1), none, some (.int x3), some (.int x4), some (.int x5), some (.int x6), some (.long x1), none, none, none]) (st' := [.long x1]) (w' := w) (g := []) (K := []) (by decide +kernel) rfl rfl rfl rfl jk0 ?_
    cases h
    exact ev_lret (by decide +kernel) rfl rfl rfl rfl
def f_Model_possibleOf_j128 (k8 : Int32 → Int32 → Int32 → Int32 → Int64 → Int32 → jW → Option (Int64 × jW)) (x1 : Int32) (x2 : Int32) (x3 : Int32) (x4 : Int32) (x5 : Int64) (x7 : Int32) (w : jW) : Option (Int64 × jW) :=
  Option.bind (f_Model_seen x5 x1 x2 x7 x4 w) fun q4 =>
  k8 x1 x2 x3 x4 q4.1 (x7 + 1) q4.2
set_option maxRecDepth 20000 in
theorem t_Model_possibleOf_j128 {l : Launch} {G : jG} (hG : jX G) {k8 : Int32 → Int32 → Int32 → Int32 → Int64 → Int32 → jW → Option (Int64 × jW)} (hk8 : ∀ (x1 : Int32) (x2 : Int32) (x3 : Int32) (x4 : Int32) (x5 : Int64) (x7 : Int32) (w : jW) (z : (Int64 × jW)), k8 x1 x2 x3 x4 x5 x7 w = some z → Ev l G (jrm d_Model_possibleOf 0 0) y_Model_possibleOf (some (.long z.1), jR0, z.2) 0 0 0 0 8 [some (.ref 93), some (.int x1), some (.int x2), some (.int x3), some (.int x4), some (.long x5), none, some (.int x7), none] [] jR0 w) {x1 : Int32} {x2 : Int32} {x3 : Int32} {x4 : Int32} {x5 : Int64} {x7 : Int32} {w : jW} {z : (Int64 × jW)} (h : f_Model_possibleOf_j128 k8 x1 x2 x3 x4 x5 x7 w = some z) : Ev l G (jrm d_Model_possibleOf 0 0) y_Model_possibleOf (some (.long z.1), jR0, z.2) 0 0 0 0 128 [some (.ref 93), some (.int x1), some (.int x2), some (.int x3), some (.int x4), some (.long x5), none, some (.int x7), none] [] jR0 w := by
  rw [f_Model_possibleOf_j128] at h
  refine ev_seg (o := 10) (nL := 9) (q := 137) (xs := [(.aload_n 0, 1, 0, 0, .null), (.lload 5, 2, 5, 0, .null), (.iload_n 1, 1, 1, 0, .null), (.iload_n 2, 1, 2, 0, .null), (.iload 7, 2, 7, 0, .null), (.iload 4, 2, 4, 0, .null)]) (L' := [some (.ref 93), some (.int x1), some (.int x2), some (.int x3), some (.int x4), some (.long x5), none, some (.int x7), none]) (st' := [.int x4, .int x7, .int x2, .int x1, .long x5, .ref 93]) (w' := w) (g := []) (K := []) (by decide +kernel) rfl rfl rfl rfl jk0 ?_
  obtain ⟨q4, hq4, h⟩ := jbe h
  refine ev_callV (ci := 10) (a := 93) (y2 := y_Model_seen) (o := 10) (idx := 297) (d2 := d_Model_seen) (n := 5) (mc2 := 0) (ms2 := 0) (As := [.long x5, .int x1, .int x2, .int x7, .int x4]) (st := []) (res2 := (some (.long q4.1), jR0, q4.2)) (by decide +kernel) rfl lk_10_297 mo_Model_seen mv_Model_seen ⟨Nat.le_of_ble_eq_true rfl, Nat.le_of_ble_eq_true rfl⟩ rfl rfl kz_93 (by decide) rfl (Nat.le_of_ble_eq_true rfl) ⟨Nat.le_refl _, Nat.le_refl _⟩ hG (e_Model_seen hG hq4) ?_
  refine ev_seg (o := 10) (nL := 9) (q := 8) (xs := [(.lstore 5, 2, 5, 0, .null), (.iinc 7 1, 3, 7, 0, .int 1), (.goto (-137), 3, 0, 0, .null)]) (L' := [some (.ref 93), some (.int x1), some (.int x2), some (.int x3), some (.int x4), some (.long q4.1), none, some (.int (x7 + 1)), none]) (st' := []) (w' := q4.2) (g := []) (K := []) (by decide +kernel) rfl rfl rfl rfl jk0 ?_
  refine ev_mask [true, true, true, true, true, true, false, true, false] ?_
  exact hk8 _ _ _ _ _ _ _ _ h
def f_Model_possibleOf_h106 (k8 : Int32 → Int32 → Int32 → Int32 → Int64 → Int32 → jW → Option (Int64 × jW)) : Nat → Int32 → Int32 → Int32 → Int32 → Int64 → Int32 → Int32 → jW → Option (Int64 × jW)
  | 0, _, _, _, _, _, _, _, _ => none
  | n + 1, x1, x2, x3, x4, x5, x7, x8, w =>
  if x8 < 40 then
    (f_Model_possibleOf_h106 k8 n) x1 x2 x3 x4 (x5 ||| (((Int64.toUInt64 x5) >>> ((Int32.toInt64 1).toUInt64 &&& Int64.toUInt64 63)).toInt64)) x7 (x8 + 1) w
  else
    f_Model_possibleOf_j128 k8 x1 x2 x3 x4 x5 x7 w
set_option maxRecDepth 20000 in
theorem t_Model_possibleOf_h106 {l : Launch} {G : jG} (hG : jX G) {k8 : Int32 → Int32 → Int32 → Int32 → Int64 → Int32 → jW → Option (Int64 × jW)} (hk8 : ∀ (x1 : Int32) (x2 : Int32) (x3 : Int32) (x4 : Int32) (x5 : Int64) (x7 : Int32) (w : jW) (z : (Int64 × jW)), k8 x1 x2 x3 x4 x5 x7 w = some z → Ev l G (jrm d_Model_possibleOf 0 0) y_Model_possibleOf (some (.long z.1), jR0, z.2) 0 0 0 0 8 [some (.ref 93), some (.int x1), some (.int x2), some (.int x3), some (.int x4), some (.long x5), none, some (.int x7), none] [] jR0 w) : ∀ (n : Nat) (x1 : Int32) (x2 : Int32) (x3 : Int32) (x4 : Int32) (x5 : Int64) (x7 : Int32) (x8 : Int32) (w : jW) (z : (Int64 × jW)), f_Model_possibleOf_h106 k8 n x1 x2 x3 x4 x5 x7 x8 w = some z → Ev l G (jrm d_Model_possibleOf 0 0) y_Model_possibleOf (some (.long z.1), jR0, z.2) 0 0 0 0 106 [some (.ref 93), some (.int x1), some (.int x2), some (.int x3), some (.int x4), some (.long x5), none, some (.int x7), some (.int x8)] [] jR0 w := by
  intro n
  induction n with
  | zero => intro x1 x2 x3 x4 x5 x7 x8 w z h; simp only [f_Model_possibleOf_h106] at h; cases h
  | succ n ih =>
    intro x1 x2 x3 x4 x5 x7 x8 w z h
    rw [f_Model_possibleOf_h106] at h
    refine ev_seg (o := 10) (nL := 9) (q := 110) (xs := [(.iload 8, 2, 8, 0, .null), (.bipush 40, 2, 0, 0, .int 40)]) (L' := [some (.ref 93), some (.int x1), some (.int x2), some (.int x3), some (.int x4), some (.long x5), none, some (.int x7), some (.int x8)]) (st' := [.int 40, .int x8]) (w' := w) (g := []) (K := []) (by decide +kernel) rfl rfl rfl rfl jk0 ?_
    refine ev_icmp_ge (off := 18) (tgt := 128) (by decide +kernel) (by decide) (fun c5 => ?_) (fun c5 => ?_)
    · replace h := jneg c5 h
      refine ev_mask [true, true, true, true, true, true, false, true, false] ?_
      exact t_Model_possibleOf_j128 hG hk8 h
    · replace h := jpos c5 h
      refine ev_seg (o := 10) (nL := 9) (q := 106) (xs := [(.lload 5, 2, 5, 0, .null), (.lload 5, 2, 5, 0, .null), (.iconst 1, 1, 0, 0, .int 1), (.lushr, 1, 0, 0, .null), (.lor, 1, 0, 0, .null), (.lstore 5, 2, 5, 0, .null), (.iinc 8 1, 3, 8, 0, .int 1), (.goto (-19), 3, 0, 0, .null)]) (L' := [some (.ref 93), some (.int x1), some (.int x2), some (.int x3), some (.int x4), some (.long (x5 ||| (((Int64.toUInt64 x5) >>> ((Int32.toInt64 1).toUInt64 &&& Int64.toUInt64 63)).toInt64))), none, some (.int x7), some (.int (x8 + 1))]) (st' := []) (w' := w) (g := []) (K := []) (by decide +kernel) rfl rfl rfl rfl jk0 ?_
      refine ev_mask [true, true, true, true, true, true, false, true, true] ?_
      exact ih _ _ _ _ _ _ _ _ _ h
def f_Model_possibleOf_j93 (k8 : Int32 → Int32 → Int32 → Int32 → Int64 → Int32 → jW → Option (Int64 × jW)) (x1 : Int32) (x2 : Int32) (x3 : Int32) (x4 : Int32) (x5 : Int64) (x7 : Int32) (w : jW) : Option (Int64 × jW) :=
  Option.bind (f_Model_siteAt x1 1 w) fun q3 =>
  if q3.1 = 3 then
    f_Model_possibleOf_h106 k8 jfu x1 x2 x3 x4 x5 x7 0 q3.2
  else
    f_Model_possibleOf_j128 k8 x1 x2 x3 x4 x5 x7 q3.2
set_option maxRecDepth 20000 in
theorem t_Model_possibleOf_j93 {l : Launch} {G : jG} (hG : jX G) {k8 : Int32 → Int32 → Int32 → Int32 → Int64 → Int32 → jW → Option (Int64 × jW)} (hk8 : ∀ (x1 : Int32) (x2 : Int32) (x3 : Int32) (x4 : Int32) (x5 : Int64) (x7 : Int32) (w : jW) (z : (Int64 × jW)), k8 x1 x2 x3 x4 x5 x7 w = some z → Ev l G (jrm d_Model_possibleOf 0 0) y_Model_possibleOf (some (.long z.1), jR0, z.2) 0 0 0 0 8 [some (.ref 93), some (.int x1), some (.int x2), some (.int x3), some (.int x4), some (.long x5), none, some (.int x7), none] [] jR0 w) {x1 : Int32} {x2 : Int32} {x3 : Int32} {x4 : Int32} {x5 : Int64} {x7 : Int32} {w : jW} {z : (Int64 × jW)} (h : f_Model_possibleOf_j93 k8 x1 x2 x3 x4 x5 x7 w = some z) : Ev l G (jrm d_Model_possibleOf 0 0) y_Model_possibleOf (some (.long z.1), jR0, z.2) 0 0 0 0 93 [some (.ref 93), some (.int x1), some (.int x2), some (.int x3), some (.int x4), some (.long x5), none, some (.int x7), none] [] jR0 w := by
  rw [f_Model_possibleOf_j93] at h
  refine ev_seg (o := 10) (nL := 9) (q := 96) (xs := [(.aload_n 0, 1, 0, 0, .null), (.iload_n 1, 1, 1, 0, .null), (.iconst 1, 1, 0, 0, .int 1)]) (L' := [some (.ref 93), some (.int x1), some (.int x2), some (.int x3), some (.int x4), some (.long x5), none, some (.int x7), none]) (st' := [.int 1, .int x1, .ref 93]) (w' := w) (g := []) (K := []) (by decide +kernel) rfl rfl rfl rfl jk0 ?_
  obtain ⟨q3, hq3, h⟩ := jbe h
  refine ev_callV (ci := 10) (a := 93) (y2 := y_Model_siteAt) (o := 10) (idx := 54) (d2 := d_Model_siteAt) (n := 2) (mc2 := 0) (ms2 := 0) (As := [.int x1, .int 1]) (st := []) (res2 := (some (.int q3.1), jR0, q3.2)) (by decide +kernel) rfl lk_10_54 mo_Model_siteAt mv_Model_siteAt ⟨Nat.le_of_ble_eq_true rfl, Nat.le_of_ble_eq_true rfl⟩ rfl rfl kz_93 (by decide) rfl (Nat.le_of_ble_eq_true rfl) ⟨Nat.le_refl _, Nat.le_refl _⟩ hG (e_Model_siteAt hG hq3) ?_
  refine ev_seg (o := 10) (nL := 9) (q := 100) (xs := [(.iconst 3, 1, 0, 0, .int 3)]) (L' := [some (.ref 93), some (.int x1), some (.int x2), some (.int x3), some (.int x4), some (.long x5), none, some (.int x7), none]) (st' := [.int 3, .int q3.1]) (w' := q3.2) (g := []) (K := []) (by decide +kernel) rfl rfl rfl rfl jk0 ?_
  refine ev_icmp_ne (off := 28) (tgt := 128) (by decide +kernel) (by decide) (fun c6 => ?_) (fun c6 => ?_)
  · replace h := jneg c6 h
    refine ev_mask [true, true, true, true, true, true, false, true, false] ?_
    exact t_Model_possibleOf_j128 hG hk8 h
  · replace h := jpos c6 h
    refine ev_seg (o := 10) (nL := 9) (q := 106) (xs := [(.iconst 0, 1, 0, 0, .int 0), (.istore 8, 2, 8, 0, .null)]) (L' := [some (.ref 93), some (.int x1), some (.int x2), some (.int x3), some (.int x4), some (.long x5), none, some (.int x7), some (.int 0)]) (st' := []) (w' := q3.2) (g := []) (K := []) (by decide +kernel) rfl rfl rfl rfl jk0 ?_
    refine ev_mask [true, true, true, true, true, true, false, true, true] ?_
    exact t_Model_possibleOf_h106 hG hk8 jfu _ _ _ _ _ _ _ _ _ h
def f_Model_possibleOf_h67 (k8 : Int32 → Int32 → Int32 → Int32 → Int64 → Int32 → jW → Option (Int64 × jW)) : Nat → Int32 → Int32 → Int32 → Int32 → Int64 → Int32 → Int32 → jW → Option (Int64 × jW)
  | 0, _, _, _, _, _, _, _, _ => none
  | n + 1, x1, x2, x3, x4, x5, x7, x8, w =>
  if x8 < 40 then
    (f_Model_possibleOf_h67 k8 n) x1 x2 x3 x4 (x5 ||| ((x5 <<< (Int32.toInt64 1 &&& 63)) &&& 2199023255551)) x7 (x8 + 1) w
  else
    f_Model_possibleOf_j93 k8 x1 x2 x3 x4 x5 x7 w
set_option maxRecDepth 20000 in
theorem t_Model_possibleOf_h67 {l : Launch} {G : jG} (hG : jX G) {k8 : Int32 → Int32 → Int32 → Int32 → Int64 → Int32 → jW → Option (Int64 × jW)} (hk8 : ∀ (x1 : Int32) (x2 : Int32) (x3 : Int32) (x4 : Int32) (x5 : Int64) (x7 : Int32) (w : jW) (z : (Int64 × jW)), k8 x1 x2 x3 x4 x5 x7 w = some z → Ev l G (jrm d_Model_possibleOf 0 0) y_Model_possibleOf (some (.long z.1), jR0, z.2) 0 0 0 0 8 [some (.ref 93), some (.int x1), some (.int x2), some (.int x3), some (.int x4), some (.long x5), none, some (.int x7), none] [] jR0 w) : ∀ (n : Nat) (x1 : Int32) (x2 : Int32) (x3 : Int32) (x4 : Int32) (x5 : Int64) (x7 : Int32) (x8 : Int32) (w : jW) (z : (Int64 × jW)), f_Model_possibleOf_h67 k8 n x1 x2 x3 x4 x5 x7 x8 w = some z → Ev l G (jrm d_Model_possibleOf 0 0) y_Model_possibleOf (some (.long z.1), jR0, z.2) 0 0 0 0 67 [some (.ref 93), some (.int x1), some (.int x2), some (.int x3), some (.int x4), some (.long x5), none, some (.int x7), some (.int x8)] [] jR0 w := by
  intro n
  induction n with
  | zero => intro x1 x2 x3 x4 x5 x7 x8 w z h; simp only [f_Model_possibleOf_h67] at h; cases h
  | succ n ih =>
    intro x1 x2 x3 x4 x5 x7 x8 w z h
    rw [f_Model_possibleOf_h67] at h
    refine ev_seg (o := 10) (nL := 9) (q := 71) (xs := [(.iload 8, 2, 8, 0, .null), (.bipush 40, 2, 0, 0, .int 40)]) (L' := [some (.ref 93), some (.int x1), some (.int x2), some (.int x3), some (.int x4), some (.long x5), none, some (.int x7), some (.int x8)]) (st' := [.int 40, .int x8]) (w' := w) (g := []) (K := []) (by decide +kernel) rfl rfl rfl rfl jk0 ?_
    refine ev_icmp_ge (off := 22) (tgt := 93) (by decide +kernel) (by decide) (fun c7 => ?_) (fun c7 => ?_)
    · replace h := jneg c7 h
      refine ev_mask [true, true, true, true, true, true, false, true, false] ?_
      exact t_Model_possibleOf_j93 hG hk8 h
    · replace h := jpos c7 h
      refine ev_seg (o := 10) (nL := 9) (q := 67) (xs := [(.lload 5, 2, 5, 0, .null), (.lload 5, 2, 5, 0, .null), (.iconst 1, 1, 0, 0, .int 1), (.lshl, 1, 0, 0, .null), (.ldc2_w 280, 3, 0, 0, .long 2199023255551), (.land, 1, 0, 0, .null), (.lor, 1, 0, 0, .null), (.lstore 5, 2, 5, 0, .null), (.iinc 8 1, 3, 8, 0, .int 1), (.goto (-23), 3, 0, 0, .null)]) (L' := [some (.ref 93), some (.int x1), some (.int x2), some (.int x3), some (.int x4), some (.long (x5 ||| ((x5 <<< (Int32.toInt64 1 &&& 63)) &&& 2199023255551))), none, some (.int x7), some (.int (x8 + 1))]) (st' := []) (w' := w) (g := []) (K := []) (by decide +kernel) rfl rfl rfl rfl jk0 ?_
      refine ev_mask [true, true, true, true, true, true, false, true, true] ?_
      exact ih _ _ _ _ _ _ _ _ _ h
def f_Model_possibleOf_j54 (k8 : Int32 → Int32 → Int32 → Int32 → Int64 → Int32 → jW → Option (Int64 × jW)) (x1 : Int32) (x2 : Int32) (x3 : Int32) (x4 : Int32) (x5 : Int64) (x7 : Int32) (w : jW) : Option (Int64 × jW) :=
  Option.bind (f_Model_siteAt x1 1 w) fun q2 =>
  if q2.1 = 1 then
    f_Model_possibleOf_h67 k8 jfu x1 x2 x3 x4 x5 x7 0 q2.2
  else
    f_Model_possibleOf_j93 k8 x1 x2 x3 x4 x5 x7 q2.2
set_option maxRecDepth 20000 in
theorem t_Model_possibleOf_j54 {l : Launch} {G : jG} (hG : jX G) {k8 : Int32 → Int32 → Int32 → Int32 → Int64 → Int32 → jW → Option (Int64 × jW)} (hk8 : ∀ (x1 : Int32) (x2 : Int32) (x3 : Int32) (x4 : Int32) (x5 : Int64) (x7 : Int32) (w : jW) (z : (Int64 × jW)), k8 x1 x2 x3 x4 x5 x7 w = some z → Ev l G (jrm d_Model_possibleOf 0 0) y_Model_possibleOf (some (.long z.1), jR0, z.2) 0 0 0 0 8 [some (.ref 93), some (.int x1), some (.int x2), some (.int x3), some (.int x4), some (.long x5), none, some (.int x7), none] [] jR0 w) {x1 : Int32} {x2 : Int32} {x3 : Int32} {x4 : Int32} {x5 : Int64} {x7 : Int32} {w : jW} {z : (Int64 × jW)} (h : f_Model_possibleOf_j54 k8 x1 x2 x3 x4 x5 x7 w = some z) : Ev l G (jrm d_Model_possibleOf 0 0) y_Model_possibleOf (some (.long z.1), jR0, z.2) 0 0 0 0 54 [some (.ref 93), some (.int x1), some (.int x2), some (.int x3), some (.int x4), some (.long x5), none, some (.int x7), none] [] jR0 w := by
  rw [f_Model_possibleOf_j54] at h
  refine ev_seg (o := 10) (nL := 9) (q := 57) (xs := [(.aload_n 0, 1, 0, 0, .null), (.iload_n 1, 1, 1, 0, .null), (.iconst 1, 1, 0, 0, .int 1)]) (L' := [some (.ref 93), some (.int x1), some (.int x2), some (.int x3), some (.int x4), some (.long x5), none, some (.int x7), none]) (st' := [.int 1, .int x1, .ref 93]) (w' := w) (g := []) (K := []) (by decide +kernel) rfl rfl rfl rfl jk0 ?_
  obtain ⟨q2, hq2, h⟩ := jbe h
  refine ev_callV (ci := 10) (a := 93) (y2 := y_Model_siteAt) (o := 10) (idx := 54) (d2 := d_Model_siteAt) (n := 2) (mc2 := 0) (ms2 := 0) (As := [.int x1, .int 1]) (st := []) (res2 := (some (.int q2.1), jR0, q2.2)) (by decide +kernel) rfl lk_10_54 mo_Model_siteAt mv_Model_siteAt ⟨Nat.le_of_ble_eq_true rfl, Nat.le_of_ble_eq_true rfl⟩ rfl rfl kz_93 (by decide) rfl (Nat.le_of_ble_eq_true rfl) ⟨Nat.le_refl _, Nat.le_refl _⟩ hG (e_Model_siteAt hG hq2) ?_
  refine ev_seg (o := 10) (nL := 9) (q := 61) (xs := [(.iconst 1, 1, 0, 0, .int 1)]) (L' := [some (.ref 93), some (.int x1), some (.int x2), some (.int x3), some (.int x4), some (.long x5), none, some (.int x7), none]) (st' := [.int 1, .int q2.1]) (w' := q2.2) (g := []) (K := []) (by decide +kernel) rfl rfl rfl rfl jk0 ?_
  refine ev_icmp_ne (off := 32) (tgt := 93) (by decide +kernel) (by decide) (fun c8 => ?_) (fun c8 => ?_)
  · replace h := jneg c8 h
    refine ev_mask [true, true, true, true, true, true, false, true, false] ?_
    exact t_Model_possibleOf_j93 hG hk8 h
  · replace h := jpos c8 h
    refine ev_seg (o := 10) (nL := 9) (q := 67) (xs := [(.iconst 0, 1, 0, 0, .int 0), (.istore 8, 2, 8, 0, .null)]) (L' := [some (.ref 93), some (.int x1), some (.int x2), some (.int x3), some (.int x4), some (.long x5), none, some (.int x7), some (.int 0)]) (st' := []) (w' := q2.2) (g := []) (K := []) (by decide +kernel) rfl rfl rfl rfl jk0 ?_
    refine ev_mask [true, true, true, true, true, true, false, true, true] ?_
    exact t_Model_possibleOf_h67 hG hk8 jfu _ _ _ _ _ _ _ _ _ h
def f_Model_possibleOf_j52 (k8 : Int32 → Int32 → Int32 → Int32 → Int64 → Int32 → jW → Option (Int64 × jW)) (x1 : Int32) (x2 : Int32) (x3 : Int32) (x4 : Int32) (x7 : Int32) (s0 : Int64) (w : jW) : Option (Int64 × jW) :=
  f_Model_possibleOf_j54 k8 x1 x2 x3 x4 s0 x7 w
set_option maxRecDepth 20000 in
theorem t_Model_possibleOf_j52 {l : Launch} {G : jG} (hG : jX G) {k8 : Int32 → Int32 → Int32 → Int32 → Int64 → Int32 → jW → Option (Int64 × jW)} (hk8 : ∀ (x1 : Int32) (x2 : Int32) (x3 : Int32) (x4 : Int32) (x5 : Int64) (x7 : Int32) (w : jW) (z : (Int64 × jW)), k8 x1 x2 x3 x4 x5 x7 w = some z → Ev l G (jrm d_Model_possibleOf 0 0) y_Model_possibleOf (some (.long z.1), jR0, z.2) 0 0 0 0 8 [some (.ref 93), some (.int x1), some (.int x2), some (.int x3), some (.int x4), some (.long x5), none, some (.int x7), none] [] jR0 w) {x1 : Int32} {x2 : Int32} {x3 : Int32} {x4 : Int32} {x7 : Int32} {s0 : Int64} {w : jW} {z : (Int64 × jW)} (h : f_Model_possibleOf_j52 k8 x1 x2 x3 x4 x7 s0 w = some z) : Ev l G (jrm d_Model_possibleOf 0 0) y_Model_possibleOf (some (.long z.1), jR0, z.2) 0 0 0 0 52 [some (.ref 93), some (.int x1), some (.int x2), some (.int x3), some (.int x4), none, none, some (.int x7), none] [.long s0] jR0 w := by
  rw [f_Model_possibleOf_j52] at h
  refine ev_seg (o := 10) (nL := 9) (q := 54) (xs := [(.lstore 5, 2, 5, 0, .null)]) (L' := [some (.ref 93), some (.int x1), some (.int x2), some (.int x3), some (.int x4), some (.long s0), none, some (.int x7), none]) (st' := []) (w' := w) (g := []) (K := []) (by decide +kernel) rfl rfl rfl rfl jk0 ?_
  refine ev_mask [true, true, true, true, true, true, false, true, false] ?_
  exact t_Model_possibleOf_j54 hG hk8 h
def f_Model_possibleOf_h8 : Nat → Int32 → Int32 → Int32 → Int32 → Int64 → Int32 → jW → Option (Int64 × jW)
  | 0, _, _, _, _, _, _, _ => none
  | n + 1, x1, x2, x3, x4, x5, x7, w =>
  if x7 ≤ x3 then
    Option.bind (f_Model_isQuiet x1 x7 x4 w) fun q1 =>
    if q1.1 = 0 then
      Option.bind (f_Model_siteAt x1 2 q1.2) fun q9 =>
      if q9.1 = 1 then
        Option.bind (f_Model_recorded x5 x1 x2 x7 q9.2) fun q10 =>
        f_Model_possibleOf_j52 (f_Model_possibleOf_h8 n) x1 x2 x3 x4 x7 q10.1 q10.2
      else
        f_Model_possibleOf_j52 (f_Model_possibleOf_h8 n) x1 x2 x3 x4 x7 2199023255551 q9.2
    else
      f_Model_possibleOf_j54 (f_Model_possibleOf_h8 n) x1 x2 x3 x4 x5 x7 q1.2
  else
    some (x5, w)
set_option maxRecDepth 20000 in
theorem t_Model_possibleOf_h8 {l : Launch} {G : jG} (hG : jX G) : ∀ (n : Nat) (x1 : Int32) (x2 : Int32) (x3 : Int32) (x4 : Int32) (x5 : Int64) (x7 : Int32) (w : jW) (z : (Int64 × jW)), f_Model_possibleOf_h8 n x1 x2 x3 x4 x5 x7 w = some z → Ev l G (jrm d_Model_possibleOf 0 0) y_Model_possibleOf (some (.long z.1), jR0, z.2) 0 0 0 0 8 [some (.ref 93), some (.int x1), some (.int x2), some (.int x3), some (.int x4), some (.long x5), none, some (.int x7), none] [] jR0 w := by
  intro n
  induction n with
  | zero => intro x1 x2 x3 x4 x5 x7 w z h; simp only [f_Model_possibleOf_h8] at h; cases h
  | succ n ih =>
    intro x1 x2 x3 x4 x5 x7 w z h
    rw [f_Model_possibleOf_h8] at h
    refine ev_seg (o := 10) (nL := 9) (q := 11) (xs := [(.iload 7, 2, 7, 0, .null), (.iload_n 3, 1, 3, 0, .null)]) (L' := [some (.ref 93), some (.int x1), some (.int x2), some (.int x3), some (.int x4), some (.long x5), none, some (.int x7), none]) (st' := [.int x3, .int x7]) (w' := w) (g := []) (K := []) (by decide +kernel) rfl rfl rfl rfl jk0 ?_
    refine ev_icmp_gt (off := 137) (tgt := 148) (by decide +kernel) (by decide) (fun c13 => ?_) (fun c13 => ?_)
    · replace h := jneg c13 h
      refine ev_seg (o := 10) (nL := 9) (q := 150) (xs := [(.lload 5, 2, 5, 0, .null)]) (L' := [some (.ref 93), some (.int x1), some (.int x2), some (.int x3), some (.int x4), some (.long x5), none, some (.int x7), none]) (st' := [.long x5]) (w' := w) (g := []) (K := []) (by decide +kernel) rfl rfl rfl rfl jk0 ?_
      cases h
      exact ev_lret (by decide +kernel) rfl rfl rfl rfl
    · replace h := jpos c13 h
      refine ev_seg (o := 10) (nL := 9) (q := 20) (xs := [(.aload_n 0, 1, 0, 0, .null), (.iload_n 1, 1, 1, 0, .null), (.iload 7, 2, 7, 0, .null), (.iload 4, 2, 4, 0, .null)]) (L' := [some (.ref 93), some (.int x1), some (.int x2), some (.int x3), some (.int x4), some (.long x5), none, some (.int x7), none]) (st' := [.int x4, .int x7, .int x1, .ref 93]) (w' := w) (g := []) (K := []) (by decide +kernel) rfl rfl rfl rfl jk0 ?_
      obtain ⟨q1, hq1, h⟩ := jbe h
      refine ev_callV (ci := 10) (a := 93) (y2 := y_Model_isQuiet) (o := 10) (idx := 290) (d2 := d_Model_isQuiet) (n := 3) (mc2 := 0) (ms2 := 0) (As := [.int x1, .int x7, .int x4]) (st := []) (res2 := (some (.int q1.1), jR0, q1.2)) (by decide +kernel) rfl lk_10_290 mo_Model_isQuiet mv_Model_isQuiet ⟨Nat.le_of_ble_eq_true rfl, Nat.le_of_ble_eq_true rfl⟩ rfl rfl kz_93 (by decide) rfl (Nat.le_of_ble_eq_true rfl) ⟨Nat.le_refl _, Nat.le_refl _⟩ hG (e_Model_isQuiet hG hq1) ?_
      refine ev_if_ne (off := 31) (tgt := 54) (by decide +kernel) (by decide) (fun c12 => ?_) (fun c12 => ?_)
      · replace h := jneg c12 h
        refine ev_mask [true, true, true, true, true, true, false, true, false] ?_
        exact t_Model_possibleOf_j54 hG ih h
      · replace h := jpos c12 h
        refine ev_seg (o := 10) (nL := 9) (q := 29) (xs := [(.aload_n 0, 1, 0, 0, .null), (.iload_n 1, 1, 1, 0, .null), (.iconst 2, 1, 0, 0, .int 2)]) (L' := [some (.ref 93), some (.int x1), some (.int x2), some (.int x3), some (.int x4), some (.long x5), none, some (.int x7), none]) (st' := [.int 2, .int x1, .ref 93]) (w' := q1.2) (g := []) (K := []) (by decide +kernel) rfl rfl rfl rfl jk0 ?_
        obtain ⟨q9, hq9, h⟩ := jbe h
        refine ev_callV (ci := 10) (a := 93) (y2 := y_Model_siteAt) (o := 10) (idx := 54) (d2 := d_Model_siteAt) (n := 2) (mc2 := 0) (ms2 := 0) (As := [.int x1, .int 2]) (st := []) (res2 := (some (.int q9.1), jR0, q9.2)) (by decide +kernel) rfl lk_10_54 mo_Model_siteAt mv_Model_siteAt ⟨Nat.le_of_ble_eq_true rfl, Nat.le_of_ble_eq_true rfl⟩ rfl rfl kz_93 (by decide) rfl (Nat.le_of_ble_eq_true rfl) ⟨Nat.le_refl _, Nat.le_refl _⟩ hG (e_Model_siteAt hG hq9) ?_
        refine ev_seg (o := 10) (nL := 9) (q := 33) (xs := [(.iconst 1, 1, 0, 0, .int 1)]) (L' := [some (.ref 93), some (.int x1), some (.int x2), some (.int x3), some (.int x4), some (.long x5), none, some (.int x7), none]) (st' := [.int 1, .int q9.1]) (w' := q9.2) (g := []) (K := []) (by decide +kernel) rfl rfl rfl rfl jk0 ?_
        refine ev_icmp_ne (off := 16) (tgt := 49) (by decide +kernel) (by decide) (fun c11 => ?_) (fun c11 => ?_)
        · replace h := jneg c11 h
          refine ev_seg (o := 10) (nL := 9) (q := 52) (xs := [(.ldc2_w 280, 3, 0, 0, .long 2199023255551)]) (L' := [some (.ref 93), some (.int x1), some (.int x2), some (.int x3), some (.int x4), some (.long x5), none, some (.int x7), none]) (st' := [.long 2199023255551]) (w' := q9.2) (g := []) (K := []) (by decide +kernel) rfl rfl rfl rfl jk0 ?_
          refine ev_mask [true, true, true, true, true, false, false, true, false] ?_
          exact t_Model_possibleOf_j52 hG ih h
        · replace h := jpos c11 h
          refine ev_seg (o := 10) (nL := 9) (q := 43) (xs := [(.aload_n 0, 1, 0, 0, .null), (.lload 5, 2, 5, 0, .null), (.iload_n 1, 1, 1, 0, .null), (.iload_n 2, 1, 2, 0, .null), (.iload 7, 2, 7, 0, .null)]) (L' := [some (.ref 93), some (.int x1), some (.int x2), some (.int x3), some (.int x4), some (.long x5), none, some (.int x7), none]) (st' := [.int x7, .int x2, .int x1, .long x5, .ref 93]) (w' := q9.2) (g := []) (K := []) (by decide +kernel) rfl rfl rfl rfl jk0 ?_
          obtain ⟨q10, hq10, h⟩ := jbe h
          refine ev_callV (ci := 10) (a := 93) (y2 := y_Model_recorded) (o := 10) (idx := 293) (d2 := d_Model_recorded) (n := 4) (mc2 := 0) (ms2 := 0) (As := [.long x5, .int x1, .int x2, .int x7]) (st := []) (res2 := (some (.long q10.1), jR0, q10.2)) (by decide +kernel) rfl lk_10_293 mo_Model_recorded mv_Model_recorded ⟨Nat.le_of_ble_eq_true rfl, Nat.le_of_ble_eq_true rfl⟩ rfl rfl kz_93 (by decide) rfl (Nat.le_of_ble_eq_true rfl) ⟨Nat.le_refl _, Nat.le_refl _⟩ hG (e_Model_recorded hG hq10) ?_
          refine ev_seg (o := 10) (nL := 9) (q := 52) (xs := [(.goto 6, 3, 0, 0, .null)]) (L' := [some (.ref 93), some (.int x1), some (.int x2), some (.int x3), some (.int x4), some (.long x5), none, some (.int x7), none]) (st' := [.long q10.1]) (w' := q10.2) (g := []) (K := []) (by decide +kernel) rfl rfl rfl rfl jk0 ?_
          refine ev_mask [true, true, true, true, true, false, false, true, false] ?_
          exact t_Model_possibleOf_j52 hG ih h
def f_Model_possibleOf (x1 : Int32) (x2 : Int32) (x3 : Int32) (x4 : Int32) (w : jW) : Option (Int64 × jW) :=
  f_Model_possibleOf_h8 jfu x1 x2 x3 x4 2199023255551 0 w
set_option maxRecDepth 20000 in
theorem e_Model_possibleOf {l : Launch} {G : jG} (hG : jX G) {x1 : Int32} {x2 : Int32} {x3 : Int32} {x4 : Int32} {w : jW} {z : (Int64 × jW)} (h : f_Model_possibleOf x1 x2 x3 x4 w = some z) : Ct l G y_Model_possibleOf d_Model_possibleOf 0 0 [.ref 93, .int x1, .int x2, .int x3, .int x4] jR0 w (some (.long z.1), jR0, z.2) := by
  rw [f_Model_possibleOf] at h
  refine Ct.of (L := [some (.ref 93), some (.int x1), some (.int x2), some (.int x3), some (.int x4), none, none, none, none]) (by decide) (Nat.le_of_ble_eq_true rfl) rfl ?_
  refine ev_seg (o := 10) (nL := 9) (q := 8) (xs := [(.ldc2_w 280, 3, 0, 0, .long 2199023255551), (.lstore 5, 2, 5, 0, .null), (.iconst 0, 1, 0, 0, .int 0), (.istore 7, 2, 7, 0, .null)]) (L' := [some (.ref 93), some (.int x1), some (.int x2), some (.int x3), some (.int x4), some (.long 2199023255551), none, some (.int 0), none]) (st' := []) (w' := w) (g := []) (K := []) (by decide +kernel) rfl rfl rfl rfl jk0 ?_
  refine ev_mask [true, true, true, true, true, true, false, true, false] ?_
  exact t_Model_possibleOf_h8 hG jfu _ _ _ _ _ _ _ _ h
def f_Model_isPossible (x1 : Int32) (x2 : Int32) (x3 : Int32) (x4 : Int32) (w : jW) : Option (Int32 × jW) :=
  Option.bind (f_Model_isSite x1 w) fun q1 =>
  if q1.1 = 0 then
    some (0, q1.2)
  else
    Option.bind (f_Model_isIn x2 0 3 q1.2) fun q2 =>
    if q2.1 = 0 then
      some (0, q2.2)
    else
      Option.bind (f_Model_isDay x4 q2.2) fun q3 =>
      if q3.1 = 0 then
        some (0, q3.2)
      else
        Option.bind (f_Model_isIn x3 0 x4 q3.2) fun q4 =>
        if q4.1 = 0 then
          some (0, q4.2)
        else
          some (1, q4.2)
set_option maxRecDepth 20000 in
theorem e_Model_isPossible {l : Launch} {G : jG} (hG : jX G) {x1 : Int32} {x2 : Int32} {x3 : Int32} {x4 : Int32} {w : jW} {z : (Int32 × jW)} (h : f_Model_isPossible x1 x2 x3 x4 w = some z) : Ct l G y_Model_isPossible d_Model_isPossible 0 0 [.ref 93, .int x1, .int x2, .int x3, .int x4] jR0 w (some (.int z.1), jR0, z.2) := by
  rw [f_Model_isPossible] at h
  refine Ct.of (L := [some (.ref 93), some (.int x1), some (.int x2), some (.int x3), some (.int x4)]) (by decide) (Nat.le_of_ble_eq_true rfl) rfl ?_
  refine ev_seg (o := 10) (nL := 5) (q := 2) (xs := [(.aload_n 0, 1, 0, 0, .null), (.iload_n 1, 1, 1, 0, .null)]) (L' := [some (.ref 93), some (.int x1), some (.int x2), some (.int x3), some (.int x4)]) (st' := [.int x1, .ref 93]) (w' := w) (g := []) (K := []) (by decide +kernel) rfl rfl rfl rfl jk0 ?_
  obtain ⟨q1, hq1, h⟩ := jbe h
  refine ev_callV (ci := 10) (a := 93) (y2 := y_Model_isSite) (o := 10) (idx := 50) (d2 := d_Model_isSite) (n := 1) (mc2 := 0) (ms2 := 0) (As := [.int x1]) (st := []) (res2 := (some (.int q1.1), jR0, q1.2)) (by decide +kernel) rfl lk_10_50 mo_Model_isSite mv_Model_isSite ⟨Nat.le_of_ble_eq_true rfl, Nat.le_of_ble_eq_true rfl⟩ rfl rfl kz_93 (by decide) rfl (Nat.le_of_ble_eq_true rfl) ⟨Nat.le_refl _, Nat.le_refl _⟩ hG (e_Model_isSite hG hq1) ?_
  refine ev_if_eq (off := 34) (tgt := 39) (by decide +kernel) (by decide) (fun c8 => ?_) (fun c8 => ?_)
  · replace h := jpos c8 h
    refine ev_seg (o := 10) (nL := 5) (q := 40) (xs := [(.iconst 0, 1, 0, 0, .int 0)]) (L' := [some (.ref 93), some (.int x1), some (.int x2), some (.int x3), some (.int x4)]) (st' := [.int 0]) (w' := q1.2) (g := []) (K := []) (by decide +kernel) rfl rfl rfl rfl jk0 ?_
    cases h
    exact ev_zret (by decide +kernel) rfl rfl rfl rfl rfl
  · replace h := jneg c8 h
    refine ev_seg (o := 10) (nL := 5) (q := 11) (xs := [(.iload_n 2, 1, 2, 0, .null), (.iconst 0, 1, 0, 0, .int 0), (.iconst 3, 1, 0, 0, .int 3)]) (L' := [some (.ref 93), some (.int x1), some (.int x2), some (.int x3), some (.int x4)]) (st' := [.int 3, .int 0, .int x2]) (w' := q1.2) (g := []) (K := []) (by decide +kernel) rfl rfl rfl rfl jk0 ?_
    obtain ⟨q2, hq2, h⟩ := jbe h
    refine ev_callS (y2 := y_Model_isIn) (o := 10) (idx := 46) (d2 := d_Model_isIn) (n := 3) (mc2 := 0) (ms2 := 0) (As := [.int x2, .int 0, .int 3]) (st := []) (res2 := (some (.int q2.1), jR0, q2.2)) (by decide +kernel) rfl lk_10_46 mo_Model_isIn ms_Model_isIn ⟨Nat.le_of_ble_eq_true rfl, Nat.le_of_ble_eq_true rfl⟩ rfl rfl (Nat.le_of_ble_eq_true rfl) ⟨Nat.le_refl _, Nat.le_refl _⟩ hG (e_Model_isIn hG hq2) ?_
    refine ev_if_eq (off := 25) (tgt := 39) (by decide +kernel) (by decide) (fun c7 => ?_) (fun c7 => ?_)
    · replace h := jpos c7 h
      refine ev_seg (o := 10) (nL := 5) (q := 40) (xs := [(.iconst 0, 1, 0, 0, .int 0)]) (L' := [some (.ref 93), some (.int x1), some (.int x2), some (.int x3), some (.int x4)]) (st' := [.int 0]) (w' := q2.2) (g := []) (K := []) (by decide +kernel) rfl rfl rfl rfl jk0 ?_
      cases h
      exact ev_zret (by decide +kernel) rfl rfl rfl rfl rfl
    · replace h := jneg c7 h
      refine ev_seg (o := 10) (nL := 5) (q := 19) (xs := [(.iload 4, 2, 4, 0, .null)]) (L' := [some (.ref 93), some (.int x1), some (.int x2), some (.int x3), some (.int x4)]) (st' := [.int x4]) (w' := q2.2) (g := []) (K := []) (by decide +kernel) rfl rfl rfl rfl jk0 ?_
      obtain ⟨q3, hq3, h⟩ := jbe h
      refine ev_callS (y2 := y_Model_isDay) (o := 10) (idx := 75) (d2 := d_Model_isDay) (n := 1) (mc2 := 0) (ms2 := 0) (As := [.int x4]) (st := []) (res2 := (some (.int q3.1), jR0, q3.2)) (by decide +kernel) rfl lk_10_75 mo_Model_isDay ms_Model_isDay ⟨Nat.le_of_ble_eq_true rfl, Nat.le_of_ble_eq_true rfl⟩ rfl rfl (Nat.le_of_ble_eq_true rfl) ⟨Nat.le_refl _, Nat.le_refl _⟩ hG (e_Model_isDay hG hq3) ?_
      refine ev_if_eq (off := 17) (tgt := 39) (by decide +kernel) (by decide) (fun c6 => ?_) (fun c6 => ?_)
      · replace h := jpos c6 h
        refine ev_seg (o := 10) (nL := 5) (q := 40) (xs := [(.iconst 0, 1, 0, 0, .int 0)]) (L' := [some (.ref 93), some (.int x1), some (.int x2), some (.int x3), some (.int x4)]) (st' := [.int 0]) (w' := q3.2) (g := []) (K := []) (by decide +kernel) rfl rfl rfl rfl jk0 ?_
        cases h
        exact ev_zret (by decide +kernel) rfl rfl rfl rfl rfl
      · replace h := jneg c6 h
        refine ev_seg (o := 10) (nL := 5) (q := 29) (xs := [(.iload_n 3, 1, 3, 0, .null), (.iconst 0, 1, 0, 0, .int 0), (.iload 4, 2, 4, 0, .null)]) (L' := [some (.ref 93), some (.int x1), some (.int x2), some (.int x3), some (.int x4)]) (st' := [.int x4, .int 0, .int x3]) (w' := q3.2) (g := []) (K := []) (by decide +kernel) rfl rfl rfl rfl jk0 ?_
        obtain ⟨q4, hq4, h⟩ := jbe h
        refine ev_callS (y2 := y_Model_isIn) (o := 10) (idx := 46) (d2 := d_Model_isIn) (n := 3) (mc2 := 0) (ms2 := 0) (As := [.int x3, .int 0, .int x4]) (st := []) (res2 := (some (.int q4.1), jR0, q4.2)) (by decide +kernel) rfl lk_10_46 mo_Model_isIn ms_Model_isIn ⟨Nat.le_of_ble_eq_true rfl, Nat.le_of_ble_eq_true rfl⟩ rfl rfl (Nat.le_of_ble_eq_true rfl) ⟨Nat.le_refl _, Nat.le_refl _⟩ hG (e_Model_isIn hG hq4) ?_
        refine ev_if_eq (off := 7) (tgt := 39) (by decide +kernel) (by decide) (fun c5 => ?_) (fun c5 => ?_)
        · replace h := jpos c5 h
          refine ev_seg (o := 10) (nL := 5) (q := 40) (xs := [(.iconst 0, 1, 0, 0, .int 0)]) (L' := [some (.ref 93), some (.int x1), some (.int x2), some (.int x3), some (.int x4)]) (st' := [.int 0]) (w' := q4.2) (g := []) (K := []) (by decide +kernel) rfl rfl rfl rfl jk0 ?_
          cases h
          exact ev_zret (by decide +kernel) rfl rfl rfl rfl rfl
        · replace h := jneg c5 h
          refine ev_seg (o := 10) (nL := 5) (q := 40) (xs := [(.iconst 1, 1, 0, 0, .int 1), (.goto 4, 3, 0, 0, .null)]) (L' := [some (.ref 93), some (.int x1), some (.int x2), some (.int x3), some (.int x4)]) (st' := [.int 1]) (w' := q4.2) (g := []) (K := []) (by decide +kernel) rfl rfl rfl rfl jk0 ?_
          cases h
          exact ev_zret (by decide +kernel) rfl rfl rfl rfl rfl
def f_Model_possible_h31 : Nat → Int32 → Int64 → Int32 → Int32 → jW → Option (Int32 × jW)
  | 0, _, _, _, _, _ => none
  | n + 1, x5, x6, x8, x9, w =>
  if x9 ≤ 40 then
    if (lg_cmp ((x6 >>> (Int32.toInt64 x9 &&& 63)) &&& 1) 1) = 0 then
      if x8 < 0 then
        (f_Model_possible_h31 n) x5 x6 x9 (x9 + 1) w
      else
        if x5 = 0 then
          (f_Model_possible_h31 n) x5 x6 x8 (x9 + 1) w
        else
          (f_Model_possible_h31 n) x5 x6 x9 (x9 + 1) w
    else
      (f_Model_possible_h31 n) x5 x6 x8 (x9 + 1) w
  else
    some (x8, w)
set_option maxRecDepth 20000 in
theorem t_Model_possible_h31 {l : Launch} {G : jG} (hG : jX G) : ∀ (n : Nat) (x5 : Int32) (x6 : Int64) (x8 : Int32) (x9 : Int32) (w : jW) (z : (Int32 × jW)), f_Model_possible_h31 n x5 x6 x8 x9 w = some z → Ev l G (jrm d_Model_possible 0 0) y_Model_possible (some (.int z.1), jR0, z.2) 0 0 0 0 31 [none, none, none, none, none, some (.int x5), some (.long x6), none, some (.int x8), some (.int x9)] [] jR0 w := by
  intro n
  induction n with
  | zero => intro x5 x6 x8 x9 w z h; simp only [f_Model_possible_h31] at h; cases h
  | succ n ih =>
    intro x5 x6 x8 x9 w z h
    rw [f_Model_possible_h31] at h
    refine ev_seg (o := 10) (nL := 10) (q := 35) (xs := [(.iload 9, 2, 9, 0, .null), (.bipush 40, 2, 0, 0, .int 40)]) (L' := [none, none, none, none, none, some (.int x5), some (.long x6), none, some (.int x8), some (.int x9)]) (st' := [.int 40, .int x9]) (w' := w) (g := []) (K := []) (by decide +kernel) rfl rfl rfl rfl jk0 ?_
    refine ev_icmp_gt (off := 35) (tgt := 70) (by decide +kernel) (by decide) (fun c6 => ?_) (fun c6 => ?_)
    · replace h := jneg c6 h
      refine ev_seg (o := 10) (nL := 10) (q := 72) (xs := [(.iload 8, 2, 8, 0, .null)]) (L' := [none, none, none, none, none, some (.int x5), some (.long x6), none, some (.int x8), some (.int x9)]) (st' := [.int x8]) (w' := w) (g := []) (K := []) (by decide +kernel) rfl rfl rfl rfl jk0 ?_
      cases h
      exact ev_iret (by decide +kernel) rfl rfl rfl rfl
    · replace h := jpos c6 h
      refine ev_seg (o := 10) (nL := 10) (q := 47) (xs := [(.lload 6, 2, 6, 0, .null), (.iload 9, 2, 9, 0, .null), (.lshr, 1, 0, 0, .null), (.lconst 1, 1, 0, 0, .long 1), (.land, 1, 0, 0, .null), (.lconst 1, 1, 0, 0, .long 1), (.lcmp, 1, 0, 0, .null)]) (L' := [none, none, none, none, none, some (.int x5), some (.long x6), none, some (.int x8), some (.int x9)]) (st' := [.int (lg_cmp ((x6 >>> (Int32.toInt64 x9 &&& 63)) &&& 1) 1)]) (w' := w) (g := []) (K := []) (by decide +kernel) rfl rfl rfl rfl jk0 ?_
      refine ev_if_ne (off := 17) (tgt := 64) (by decide +kernel) (by decide) (fun c5 => ?_) (fun c5 => ?_)
      · replace h := jneg c5 h
        refine ev_seg (o := 10) (nL := 10) (q := 31) (xs := [(.iinc 9 1, 3, 9, 0, .int 1), (.goto (-36), 3, 0, 0, .null)]) (L' := [none, none, none, none, none, some (.int x5), some (.long x6), none, some (.int x8), some (.int (x9 + 1))]) (st' := []) (w' := w) (g := []) (K := []) (by decide +kernel) rfl rfl rfl rfl jk0 ?_
        refine ev_mask [false, false, false, false, false, true, true, false, true, true] ?_
        exact ih _ _ _ _ _ _ h
      · replace h := jpos c5 h
        refine ev_seg (o := 10) (nL := 10) (q := 52) (xs := [(.iload 8, 2, 8, 0, .null)]) (L' := [none, none, none, none, none, some (.int x5), some (.long x6), none, some (.int x8), some (.int x9)]) (st' := [.int x8]) (w' := w) (g := []) (K := []) (by decide +kernel) rfl rfl rfl rfl jk0 ?_
        refine ev_if_lt (off := 8) (tgt := 60) (by decide +kernel) (by decide) (fun c4 => ?_) (fun c4 => ?_)
        · replace h := jpos c4 h
          refine ev_seg (o := 10) (nL := 10) (q := 31) (xs := [(.iload 9, 2, 9, 0, .null), (.istore 8, 2, 8, 0, .null), (.iinc 9 1, 3, 9, 0, .int 1), (.goto (-36), 3, 0, 0, .null)]) (L' := [none, none, none, none, none, some (.int x5), some (.long x6), none, some (.int x9), some (.int (x9 + 1))]) (st' := []) (w' := w) (g := []) (K := []) (by decide +kernel) rfl rfl rfl rfl jk0 ?_
          refine ev_mask [false, false, false, false, false, true, true, false, true, true] ?_
          exact ih _ _ _ _ _ _ h
        · replace h := jneg c4 h
          refine ev_seg (o := 10) (nL := 10) (q := 57) (xs := [(.iload 5, 2, 5, 0, .null)]) (L' := [none, none, none, none, none, some (.int x5), some (.long x6), none, some (.int x8), some (.int x9)]) (st' := [.int x5]) (w' := w) (g := []) (K := []) (by decide +kernel) rfl rfl rfl rfl jk0 ?_
          refine ev_if_eq (off := 7) (tgt := 64) (by decide +kernel) (by decide) (fun c3 => ?_) (fun c3 => ?_)
          · replace h := jpos c3 h
            refine ev_seg (o := 10) (nL := 10) (q := 31) (xs := [(.iinc 9 1, 3, 9, 0, .int 1), (.goto (-36), 3, 0, 0, .null)]) (L' := [none, none, none, none, none, some (.int x5), some (.long x6), none, some (.int x8), some (.int (x9 + 1))]) (st' := []) (w' := w) (g := []) (K := []) (by decide +kernel) rfl rfl rfl rfl jk0 ?_
            refine ev_mask [false, false, false, false, false, true, true, false, true, true] ?_
            exact ih _ _ _ _ _ _ h
          · replace h := jneg c3 h
            refine ev_seg (o := 10) (nL := 10) (q := 31) (xs := [(.iload 9, 2, 9, 0, .null), (.istore 8, 2, 8, 0, .null), (.iinc 9 1, 3, 9, 0, .int 1), (.goto (-36), 3, 0, 0, .null)]) (L' := [none, none, none, none, none, some (.int x5), some (.long x6), none, some (.int x9), some (.int (x9 + 1))]) (st' := []) (w' := w) (g := []) (K := []) (by decide +kernel) rfl rfl rfl rfl jk0 ?_
            refine ev_mask [false, false, false, false, false, true, true, false, true, true] ?_
            exact ih _ _ _ _ _ _ h
def f_Model_possible (x1 : Int32) (x2 : Int32) (x3 : Int32) (x4 : Int32) (x5 : Int32) (w : jW) : Option (Int32 × jW) :=
  Option.bind (f_Model_isPossible x1 x2 x3 x4 w) fun q1 =>
  if q1.1 = 0 then
    some ((-1), q1.2)
  else
    Option.bind (f_Model_possibleOf x1 x2 x3 x4 q1.2) fun q2 =>
    f_Model_possible_h31 jfu x5 q2.1 (-1) 0 q2.2
set_option maxRecDepth 20000 in
theorem e_Model_possible {l : Launch} {G : jG} (hG : jX G) {x1 : Int32} {x2 : Int32} {x3 : Int32} {x4 : Int32} {x5 : Int32} {w : jW} {z : (Int32 × jW)} (h : f_Model_possible x1 x2 x3 x4 x5 w = some z) : Ct l G y_Model_possible d_Model_possible 0 0 [.ref 93, .int x1, .int x2, .int x3, .int x4, .int x5] jR0 w (some (.int z.1), jR0, z.2) := by
  rw [f_Model_possible] at h
  refine Ct.of (L := [some (.ref 93), some (.int x1), some (.int x2), some (.int x3), some (.int x4), some (.int x5), none, none, none, none]) (by decide) (Nat.le_of_ble_eq_true rfl) rfl ?_
  refine ev_seg (o := 10) (nL := 10) (q := 6) (xs := [(.aload_n 0, 1, 0, 0, .null), (.iload_n 1, 1, 1, 0, .null), (.iload_n 2, 1, 2, 0, .null), (.iload_n 3, 1, 3, 0, .null), (.iload 4, 2, 4, 0, .null)]) (L' := [some (.ref 93), some (.int x1), some (.int x2), some (.int x3), some (.int x4), some (.int x5), none, none, none, none]) (st' := [.int x4, .int x3, .int x2, .int x1, .ref 93]) (w' := w) (g := []) (K := []) (by decide +kernel) rfl rfl rfl rfl jk0 ?_
  obtain ⟨q1, hq1, h⟩ := jbe h
  refine ev_callV (ci := 10) (a := 93) (y2 := y_Model_isPossible) (o := 10) (idx := 301) (d2 := d_Model_isPossible) (n := 4) (mc2 := 0) (ms2 := 0) (As := [.int x1, .int x2, .int x3, .int x4]) (st := []) (res2 := (some (.int q1.1), jR0, q1.2)) (by decide +kernel) rfl lk_10_301 mo_Model_isPossible mv_Model_isPossible ⟨Nat.le_of_ble_eq_true rfl, Nat.le_of_ble_eq_true rfl⟩ rfl rfl kz_93 (by decide) rfl (Nat.le_of_ble_eq_true rfl) ⟨Nat.le_refl _, Nat.le_refl _⟩ hG (e_Model_isPossible hG hq1) ?_
  refine ev_if_ne (off := 5) (tgt := 14) (by decide +kernel) (by decide) (fun c7 => ?_) (fun c7 => ?_)
  · replace h := jneg c7 h
    refine ev_seg (o := 10) (nL := 10) (q := 20) (xs := [(.aload_n 0, 1, 0, 0, .null), (.iload_n 1, 1, 1, 0, .null), (.iload_n 2, 1, 2, 0, .null), (.iload_n 3, 1, 3, 0, .null), (.iload 4, 2, 4, 0, .null)]) (L' := [some (.ref 93), some (.int x1), some (.int x2), some (.int x3), some (.int x4), some (.int x5), none, none, none, none]) (st' := [.int x4, .int x3, .int x2, .int x1, .ref 93]) (w' := q1.2) (g := []) (K := []) (by decide +kernel) rfl rfl rfl rfl jk0 ?_
    obtain ⟨q2, hq2, h⟩ := jbe h
    refine ev_callV (ci := 10) (a := 93) (y2 := y_Model_possibleOf) (o := 10) (idx := 304) (d2 := d_Model_possibleOf) (n := 4) (mc2 := 0) (ms2 := 0) (As := [.int x1, .int x2, .int x3, .int x4]) (st := []) (res2 := (some (.long q2.1), jR0, q2.2)) (by decide +kernel) rfl lk_10_304 mo_Model_possibleOf mv_Model_possibleOf ⟨Nat.le_of_ble_eq_true rfl, Nat.le_of_ble_eq_true rfl⟩ rfl rfl kz_93 (by decide) rfl (Nat.le_of_ble_eq_true rfl) ⟨Nat.le_refl _, Nat.le_refl _⟩ hG (e_Model_possibleOf hG hq2) ?_
    refine ev_seg (o := 10) (nL := 10) (q := 31) (xs := [(.lstore 6, 2, 6, 0, .null), (.iconst (-1), 1, 0, 0, .int (-1)), (.istore 8, 2, 8, 0, .null), (.iconst 0, 1, 0, 0, .int 0), (.istore 9, 2, 9, 0, .null)]) (L' := [some (.ref 93), some (.int x1), some (.int x2), some (.int x3), some (.int x4), some (.int x5), some (.long q2.1), none, some (.int (-1)), some (.int 0)]) (st' := []) (w' := q2.2) (g := []) (K := []) (by decide +kernel) rfl rfl rfl rfl jk0 ?_
    refine ev_mask [false, false, false, false, false, true, true, false, true, true] ?_
    exact t_Model_possible_h31 hG jfu _ _ _ _ _ _ h
  · replace h := jpos c7 h
    refine ev_seg (o := 10) (nL := 10) (q := 13) (xs := [(.iconst (-1), 1, 0, 0, .int (-1))]) (L' := [some (.ref 93), some (.int x1), some (.int x2), some (.int x3), some (.int x4), some (.int x5), none, none, none, none]) (st' := [.int (-1)]) (w' := q1.2) (g := []) (K := []) (by decide +kernel) rfl rfl rfl rfl jk0 ?_
    cases h
    exact ev_iret (by decide +kernel) rfl rfl rfl rfl
def f_Model_isDoubted (x1 : Int32) (x2 : Int32) (x3 : Int32) (x4 : Int32) (w : jW) : Option (Int32 × jW) :=
  Option.bind (f_Model_possibleOf x1 x2 x3 x4 w) fun q1 =>
  Option.bind (f_Model_toldThere x1 x2 x3 x4 q1.2) fun q2 =>
  if (lg_cmp ((q1.1 >>> (Int32.toInt64 q2.1 &&& 63)) &&& 1) 0) = 0 then
    some (1, q2.2)
  else
    some (0, q2.2)
set_option maxRecDepth 20000 in
theorem e_Model_isDoubted {l : Launch} {G : jG} (hG : jX G) {x1 : Int32} {x2 : Int32} {x3 : Int32} {x4 : Int32} {w : jW} {z : (Int32 × jW)} (h : f_Model_isDoubted x1 x2 x3 x4 w = some z) : Ct l G y_Model_isDoubted d_Model_isDoubted 0 0 [.ref 93, .int x1, .int x2, .int x3, .int x4] jR0 w (some (.int z.1), jR0, z.2) := by
  rw [f_Model_isDoubted] at h
  refine Ct.of (L := [some (.ref 93), some (.int x1), some (.int x2), some (.int x3), some (.int x4)]) (by decide) (Nat.le_of_ble_eq_true rfl) rfl ?_
  refine ev_seg (o := 10) (nL := 5) (q := 6) (xs := [(.aload_n 0, 1, 0, 0, .null), (.iload_n 1, 1, 1, 0, .null), (.iload_n 2, 1, 2, 0, .null), (.iload_n 3, 1, 3, 0, .null), (.iload 4, 2, 4, 0, .null)]) (L' := [some (.ref 93), some (.int x1), some (.int x2), some (.int x3), some (.int x4)]) (st' := [.int x4, .int x3, .int x2, .int x1, .ref 93]) (w' := w) (g := []) (K := []) (by decide +kernel) rfl rfl rfl rfl jk0 ?_
  obtain ⟨q1, hq1, h⟩ := jbe h
  refine ev_callV (ci := 10) (a := 93) (y2 := y_Model_possibleOf) (o := 10) (idx := 304) (d2 := d_Model_possibleOf) (n := 4) (mc2 := 0) (ms2 := 0) (As := [.int x1, .int x2, .int x3, .int x4]) (st := []) (res2 := (some (.long q1.1), jR0, q1.2)) (by decide +kernel) rfl lk_10_304 mo_Model_possibleOf mv_Model_possibleOf ⟨Nat.le_of_ble_eq_true rfl, Nat.le_of_ble_eq_true rfl⟩ rfl rfl kz_93 (by decide) rfl (Nat.le_of_ble_eq_true rfl) ⟨Nat.le_refl _, Nat.le_refl _⟩ hG (e_Model_possibleOf hG hq1) ?_
  refine ev_seg (o := 10) (nL := 5) (q := 15) (xs := [(.aload_n 0, 1, 0, 0, .null), (.iload_n 1, 1, 1, 0, .null), (.iload_n 2, 1, 2, 0, .null), (.iload_n 3, 1, 3, 0, .null), (.iload 4, 2, 4, 0, .null)]) (L' := [some (.ref 93), some (.int x1), some (.int x2), some (.int x3), some (.int x4)]) (st' := [.int x4, .int x3, .int x2, .int x1, .ref 93, .long q1.1]) (w' := q1.2) (g := []) (K := []) (by decide +kernel) rfl rfl rfl rfl jk0 ?_
  obtain ⟨q2, hq2, h⟩ := jbe h
  refine ev_callV (ci := 10) (a := 93) (y2 := y_Model_toldThere) (o := 10) (idx := 271) (d2 := d_Model_toldThere) (n := 4) (mc2 := 0) (ms2 := 0) (As := [.int x1, .int x2, .int x3, .int x4]) (st := [.long q1.1]) (res2 := (some (.int q2.1), jR0, q2.2)) (by decide +kernel) rfl lk_10_271 mo_Model_toldThere mv_Model_toldThere ⟨Nat.le_of_ble_eq_true rfl, Nat.le_of_ble_eq_true rfl⟩ rfl rfl kz_93 (by decide) rfl (Nat.le_of_ble_eq_true rfl) ⟨Nat.le_refl _, Nat.le_refl _⟩ hG (e_Model_toldThere hG hq2) ?_
  refine ev_seg (o := 10) (nL := 5) (q := 23) (xs := [(.lshr, 1, 0, 0, .null), (.lconst 1, 1, 0, 0, .long 1), (.land, 1, 0, 0, .null), (.lconst 0, 1, 0, 0, .long 0), (.lcmp, 1, 0, 0, .null)]) (L' := [some (.ref 93), some (.int x1), some (.int x2), some (.int x3), some (.int x4)]) (st' := [.int (lg_cmp ((q1.1 >>> (Int32.toInt64 q2.1 &&& 63)) &&& 1) 0)]) (w' := q2.2) (g := []) (K := []) (by decide +kernel) rfl rfl rfl rfl jk0 ?_
  refine ev_if_ne (off := 7) (tgt := 30) (by decide +kernel) (by decide) (fun c3 => ?_) (fun c3 => ?_)
  · replace h := jneg c3 h
    refine ev_seg (o := 10) (nL := 5) (q := 31) (xs := [(.iconst 0, 1, 0, 0, .int 0)]) (L' := [some (.ref 93), some (.int x1), some (.int x2), some (.int x3), some (.int x4)]) (st' := [.int 0]) (w' := q2.2) (g := []) (K := []) (by decide +kernel) rfl rfl rfl rfl jk0 ?_
    cases h
    exact ev_zret (by decide +kernel) rfl rfl rfl rfl rfl
  · replace h := jpos c3 h
    refine ev_seg (o := 10) (nL := 5) (q := 31) (xs := [(.iconst 1, 1, 0, 0, .int 1), (.goto 4, 3, 0, 0, .null)]) (L' := [some (.ref 93), some (.int x1), some (.int x2), some (.int x3), some (.int x4)]) (st' := [.int 1]) (w' := q2.2) (g := []) (K := []) (by decide +kernel) rfl rfl rfl rfl jk0 ?_
    cases h
    exact ev_zret (by decide +kernel) rfl rfl rfl rfl rfl
def f_Model_doubted (x1 : Int32) (x2 : Int32) (x3 : Int32) (x4 : Int32) (w : jW) : Option (Int32 × jW) :=
  Option.bind (f_Model_isPossible x1 x2 x3 x4 w) fun q1 =>
  if q1.1 = 0 then
    some ((-1), q1.2)
  else
    Option.bind (f_Model_isDoubted x1 x2 x3 x4 q1.2) fun q2 =>
    if q2.1 = 0 then
      some (0, q2.2)
    else
      some (1, q2.2)
set_option maxRecDepth 20000 in
theorem e_Model_doubted {l : Launch} {G : jG} (hG : jX G) {x1 : Int32} {x2 : Int32} {x3 : Int32} {x4 : Int32} {w : jW} {z : (Int32 × jW)} (h : f_Model_doubted x1 x2 x3 x4 w = some z) : Ct l G y_Model_doubted d_Model_doubted 0 0 [.ref 93, .int x1, .int x2, .int x3, .int x4] jR0 w (some (.int z.1), jR0, z.2) := by
  rw [f_Model_doubted] at h
  refine Ct.of (L := [some (.ref 93), some (.int x1), some (.int x2), some (.int x3), some (.int x4)]) (by decide) (Nat.le_of_ble_eq_true rfl) rfl ?_
  refine ev_seg (o := 10) (nL := 5) (q := 6) (xs := [(.aload_n 0, 1, 0, 0, .null), (.iload_n 1, 1, 1, 0, .null), (.iload_n 2, 1, 2, 0, .null), (.iload_n 3, 1, 3, 0, .null), (.iload 4, 2, 4, 0, .null)]) (L' := [some (.ref 93), some (.int x1), some (.int x2), some (.int x3), some (.int x4)]) (st' := [.int x4, .int x3, .int x2, .int x1, .ref 93]) (w' := w) (g := []) (K := []) (by decide +kernel) rfl rfl rfl rfl jk0 ?_
  obtain ⟨q1, hq1, h⟩ := jbe h
  refine ev_callV (ci := 10) (a := 93) (y2 := y_Model_isPossible) (o := 10) (idx := 301) (d2 := d_Model_isPossible) (n := 4) (mc2 := 0) (ms2 := 0) (As := [.int x1, .int x2, .int x3, .int x4]) (st := []) (res2 := (some (.int q1.1), jR0, q1.2)) (by decide +kernel) rfl lk_10_301 mo_Model_isPossible mv_Model_isPossible ⟨Nat.le_of_ble_eq_true rfl, Nat.le_of_ble_eq_true rfl⟩ rfl rfl kz_93 (by decide) rfl (Nat.le_of_ble_eq_true rfl) ⟨Nat.le_refl _, Nat.le_refl _⟩ hG (e_Model_isPossible hG hq1) ?_
  refine ev_if_eq (off := 23) (tgt := 32) (by decide +kernel) (by decide) (fun c4 => ?_) (fun c4 => ?_)
  · replace h := jpos c4 h
    refine ev_seg (o := 10) (nL := 5) (q := 33) (xs := [(.iconst (-1), 1, 0, 0, .int (-1))]) (L' := [some (.ref 93), some (.int x1), some (.int x2), some (.int x3), some (.int x4)]) (st' := [.int (-1)]) (w' := q1.2) (g := []) (K := []) (by decide +kernel) rfl rfl rfl rfl jk0 ?_
    cases h
    exact ev_iret (by decide +kernel) rfl rfl rfl rfl
  · replace h := jneg c4 h
    refine ev_seg (o := 10) (nL := 5) (q := 18) (xs := [(.aload_n 0, 1, 0, 0, .null), (.iload_n 1, 1, 1, 0, .null), (.iload_n 2, 1, 2, 0, .null), (.iload_n 3, 1, 3, 0, .null), (.iload 4, 2, 4, 0, .null)]) (L' := [some (.ref 93), some (.int x1), some (.int x2), some (.int x3), some (.int x4)]) (st' := [.int x4, .int x3, .int x2, .int x1, .ref 93]) (w' := q1.2) (g := []) (K := []) (by decide +kernel) rfl rfl rfl rfl jk0 ?_
    obtain ⟨q2, hq2, h⟩ := jbe h
    refine ev_callV (ci := 10) (a := 93) (y2 := y_Model_isDoubted) (o := 10) (idx := 307) (d2 := d_Model_isDoubted) (n := 4) (mc2 := 0) (ms2 := 0) (As := [.int x1, .int x2, .int x3, .int x4]) (st := []) (res2 := (some (.int q2.1), jR0, q2.2)) (by decide +kernel) rfl lk_10_307 mo_Model_isDoubted mv_Model_isDoubted ⟨Nat.le_of_ble_eq_true rfl, Nat.le_of_ble_eq_true rfl⟩ rfl rfl kz_93 (by decide) rfl (Nat.le_of_ble_eq_true rfl) ⟨Nat.le_refl _, Nat.le_refl _⟩ hG (e_Model_isDoubted hG hq2) ?_
    refine ev_if_eq (off := 7) (tgt := 28) (by decide +kernel) (by decide) (fun c3 => ?_) (fun c3 => ?_)
    · replace h := jpos c3 h
      refine ev_seg (o := 10) (nL := 5) (q := 33) (xs := [(.iconst 0, 1, 0, 0, .int 0), (.goto 4, 3, 0, 0, .null)]) (L' := [some (.ref 93), some (.int x1), some (.int x2), some (.int x3), some (.int x4)]) (st' := [.int 0]) (w' := q2.2) (g := []) (K := []) (by decide +kernel) rfl rfl rfl rfl jk0 ?_
      cases h
      exact ev_iret (by decide +kernel) rfl rfl rfl rfl
    · replace h := jneg c3 h
      refine ev_seg (o := 10) (nL := 5) (q := 33) (xs := [(.iconst 1, 1, 0, 0, .int 1), (.goto 8, 3, 0, 0, .null)]) (L' := [some (.ref 93), some (.int x1), some (.int x2), some (.int x3), some (.int x4)]) (st' := [.int 1]) (w' := q2.2) (g := []) (K := []) (by decide +kernel) rfl rfl rfl rfl jk0 ?_
      cases h
      exact ev_iret (by decide +kernel) rfl rfl rfl rfl
def f_Model_doubt_h28 : Nat → Int32 → Int32 → Int32 → Int32 → jW → Option (Int32 × jW)
  | 0, _, _, _, _, _ => none
  | n + 1, x1, x2, x4, x5, w =>
  if jal [jin 1 21000] = true then
  if x5 < (4 * (w.1 94 (Int32.toNatClampNeg 1))) then
    if jal [!(4 == 0), !(4 == 0)] = true then
    Option.bind (f_Model_isDoubted (x5 / 4) (x5 - x5 / 4 * 4) x1 x2 w) fun q5 =>
    if q5.1 = 0 then
      (f_Model_doubt_h28 n) x1 x2 x4 (x5 + 1) q5.2
    else
      if x4 = 0 then
        some (x5, q5.2)
      else
        (f_Model_doubt_h28 n) x1 x2 (x4 + (-1)) (x5 + 1) q5.2
    else none
  else
    some ((-1), w)
  else none
set_option maxRecDepth 20000 in
theorem t_Model_doubt_h28 {l : Launch} {G : jG} (hG : jX G) : ∀ (n : Nat) (x1 : Int32) (x2 : Int32) (x4 : Int32) (x5 : Int32) (w : jW) (z : (Int32 × jW)), f_Model_doubt_h28 n x1 x2 x4 x5 w = some z → Ev l G (jrm d_Model_doubt 0 0) y_Model_doubt (some (.int z.1), jR0, z.2) 0 0 0 0 28 [some (.ref 93), some (.int x1), some (.int x2), none, some (.int x4), some (.int x5)] [] jR0 w := by
  intro n
  induction n with
  | zero => intro x1 x2 x4 x5 w z h; simp only [f_Model_doubt_h28] at h; cases h
  | succ n ih =>
    intro x1 x2 x4 x5 w z h
    rw [f_Model_doubt_h28] at h
    obtain ⟨hg3, h⟩ := jgd h
    refine ev_seg (o := 10) (nL := 6) (q := 38) (xs := [(.iload 5, 2, 5, 0, .null), (.iconst 4, 1, 0, 0, .int 4), (.aload_n 0, 1, 0, 0, .null), (.getfield 7, 3, 10, 0, .ref 20), (.iconst 1, 1, 0, 0, .int 1), (.iaload, 1, 0, 0, .null), (.imul, 1, 0, 0, .null)]) (L' := [some (.ref 93), some (.int x1), some (.int x2), none, some (.int x4), some (.int x5)]) (st' := [.int (4 * (w.1 94 (Int32.toNatClampNeg 1))), .int x5]) (w' := w) (g := [jin 1 21000]) (K := [(94, 20), (94, 20), (93, 10)]) (by decide +kernel) rfl rfl rfl hg3 (jk1 kz_94 (jk1 kz_94 (jk1 kz_93 jk0))) ?_
    refine ev_icmp_ge (off := 40) (tgt := 78) (by decide +kernel) (by decide) (fun c8 => ?_) (fun c8 => ?_)
    · replace h := jneg c8 h
      refine ev_seg (o := 10) (nL := 6) (q := 79) (xs := [(.iconst (-1), 1, 0, 0, .int (-1))]) (L' := [some (.ref 93), some (.int x1), some (.int x2), none, some (.int x4), some (.int x5)]) (st' := [.int (-1)]) (w' := w) (g := []) (K := []) (by decide +kernel) rfl rfl rfl rfl jk0 ?_
      cases h
      exact ev_iret (by decide +kernel) rfl rfl rfl rfl
    · replace h := jpos c8 h
      obtain ⟨hg4, h⟩ := jgd h
      refine ev_seg (o := 10) (nL := 6) (q := 52) (xs := [(.aload_n 0, 1, 0, 0, .null), (.iload 5, 2, 5, 0, .null), (.iconst 4, 1, 0, 0, .int 4), (.idiv, 1, 0, 0, .null), (.iload 5, 2, 5, 0, .null), (.iconst 4, 1, 0, 0, .int 4), (.irem, 1, 0, 0, .null), (.iload_n 1, 1, 1, 0, .null), (.iload_n 2, 1, 2, 0, .null)]) (L' := [some (.ref 93), some (.int x1), some (.int x2), none, some (.int x4), some (.int x5)]) (st' := [.int x2, .int x1, .int (x5 - x5 / 4 * 4), .int (x5 / 4), .ref 93]) (w' := w) (g := [!(4 == 0), !(4 == 0)]) (K := []) (by decide +kernel) rfl rfl rfl hg4 jk0 ?_
      obtain ⟨q5, hq5, h⟩ := jbe h
      refine ev_callV (ci := 10) (a := 93) (y2 := y_Model_isDoubted) (o := 10) (idx := 307) (d2 := d_Model_isDoubted) (n := 4) (mc2 := 0) (ms2 := 0) (As := [.int (x5 / 4), .int (x5 - x5 / 4 * 4), .int x1, .int x2]) (st := []) (res2 := (some (.int q5.1), jR0, q5.2)) (by decide +kernel) rfl lk_10_307 mo_Model_isDoubted mv_Model_isDoubted ⟨Nat.le_of_ble_eq_true rfl, Nat.le_of_ble_eq_true rfl⟩ rfl rfl kz_93 (by decide) rfl (Nat.le_of_ble_eq_true rfl) ⟨Nat.le_refl _, Nat.le_refl _⟩ hG (e_Model_isDoubted hG hq5) ?_
      refine ev_if_ne (off := 6) (tgt := 61) (by decide +kernel) (by decide) (fun c7 => ?_) (fun c7 => ?_)
      · replace h := jneg c7 h
        refine ev_seg (o := 10) (nL := 6) (q := 63) (xs := [(.iload 4, 2, 4, 0, .null)]) (L' := [some (.ref 93), some (.int x1), some (.int x2), none, some (.int x4), some (.int x5)]) (st' := [.int x4]) (w' := q5.2) (g := []) (K := []) (by decide +kernel) rfl rfl rfl rfl jk0 ?_
        refine ev_if_ne (off := 6) (tgt := 69) (by decide +kernel) (by decide) (fun c6 => ?_) (fun c6 => ?_)
        · replace h := jneg c6 h
          refine ev_seg (o := 10) (nL := 6) (q := 28) (xs := [(.iinc 4 (-1), 3, 4, 0, .int (-1)), (.iinc 5 1, 3, 5, 0, .int 1), (.goto (-47), 3, 0, 0, .null)]) (L' := [some (.ref 93), some (.int x1), some (.int x2), none, some (.int (x4 + (-1))), some (.int (x5 + 1))]) (st' := []) (w' := q5.2) (g := []) (K := []) (by decide +kernel) rfl rfl rfl rfl jk0 ?_
          refine ev_mask [true, true, true, false, true, true] ?_
          exact ih _ _ _ _ _ _ h
        · replace h := jpos c6 h
          refine ev_seg (o := 10) (nL := 6) (q := 68) (xs := [(.iload 5, 2, 5, 0, .null)]) (L' := [some (.ref 93), some (.int x1), some (.int x2), none, some (.int x4), some (.int x5)]) (st' := [.int x5]) (w' := q5.2) (g := []) (K := []) (by decide +kernel) rfl rfl rfl rfl jk0 ?_
          cases h
          exact ev_iret (by decide +kernel) rfl rfl rfl rfl
      · replace h := jpos c7 h
        refine ev_seg (o := 10) (nL := 6) (q := 28) (xs := [(.goto 14, 3, 0, 0, .null), (.iinc 5 1, 3, 5, 0, .int 1), (.goto (-47), 3, 0, 0, .null)]) (L' := [some (.ref 93), some (.int x1), some (.int x2), none, some (.int x4), some (.int (x5 + 1))]) (st' := []) (w' := q5.2) (g := []) (K := []) (by decide +kernel) rfl rfl rfl rfl jk0 ?_
        refine ev_mask [true, true, true, false, true, true] ?_
        exact ih _ _ _ _ _ _ h
def f_Model_doubt (x1 : Int32) (x2 : Int32) (x3 : Int32) (w : jW) : Option (Int32 × jW) :=
  Option.bind (f_Model_isDay x2 w) fun q1 =>
  if q1.1 = 0 then
    some ((-1), q1.2)
  else
    Option.bind (f_Model_isIn x1 0 x2 q1.2) fun q2 =>
    if q2.1 = 0 then
      some ((-1), q2.2)
    else
      if x3 < 0 then
        some ((-1), q2.2)
      else
        f_Model_doubt_h28 jfu x1 x2 x3 0 q2.2
set_option maxRecDepth 20000 in
theorem e_Model_doubt {l : Launch} {G : jG} (hG : jX G) {x1 : Int32} {x2 : Int32} {x3 : Int32} {w : jW} {z : (Int32 × jW)} (h : f_Model_doubt x1 x2 x3 w = some z) : Ct l G y_Model_doubt d_Model_doubt 0 0 [.ref 93, .int x1, .int x2, .int x3] jR0 w (some (.int z.1), jR0, z.2) := by
  rw [f_Model_doubt] at h
  refine Ct.of (L := [some (.ref 93), some (.int x1), some (.int x2), some (.int x3), none, none]) (by decide) (Nat.le_of_ble_eq_true rfl) rfl ?_
  refine ev_seg (o := 10) (nL := 6) (q := 1) (xs := [(.iload_n 2, 1, 2, 0, .null)]) (L' := [some (.ref 93), some (.int x1), some (.int x2), some (.int x3), none, none]) (st' := [.int x2]) (w' := w) (g := []) (K := []) (by decide +kernel) rfl rfl rfl rfl jk0 ?_
  obtain ⟨q1, hq1, h⟩ := jbe h
  refine ev_callS (y2 := y_Model_isDay) (o := 10) (idx := 75) (d2 := d_Model_isDay) (n := 1) (mc2 := 0) (ms2 := 0) (As := [.int x2]) (st := []) (res2 := (some (.int q1.1), jR0, q1.2)) (by decide +kernel) rfl lk_10_75 mo_Model_isDay ms_Model_isDay ⟨Nat.le_of_ble_eq_true rfl, Nat.le_of_ble_eq_true rfl⟩ rfl rfl (Nat.le_of_ble_eq_true rfl) ⟨Nat.le_refl _, Nat.le_refl _⟩ hG (e_Model_isDay hG hq1) ?_
  refine ev_if_eq (off := 16) (tgt := 20) (by decide +kernel) (by decide) (fun c11 => ?_) (fun c11 => ?_)
  · replace h := jpos c11 h
    refine ev_seg (o := 10) (nL := 6) (q := 21) (xs := [(.iconst (-1), 1, 0, 0, .int (-1))]) (L' := [some (.ref 93), some (.int x1), some (.int x2), some (.int x3), none, none]) (st' := [.int (-1)]) (w' := q1.2) (g := []) (K := []) (by decide +kernel) rfl rfl rfl rfl jk0 ?_
    cases h
    exact ev_iret (by decide +kernel) rfl rfl rfl rfl
  · replace h := jneg c11 h
    refine ev_seg (o := 10) (nL := 6) (q := 10) (xs := [(.iload_n 1, 1, 1, 0, .null), (.iconst 0, 1, 0, 0, .int 0), (.iload_n 2, 1, 2, 0, .null)]) (L' := [some (.ref 93), some (.int x1), some (.int x2), some (.int x3), none, none]) (st' := [.int x2, .int 0, .int x1]) (w' := q1.2) (g := []) (K := []) (by decide +kernel) rfl rfl rfl rfl jk0 ?_
    obtain ⟨q2, hq2, h⟩ := jbe h
    refine ev_callS (y2 := y_Model_isIn) (o := 10) (idx := 46) (d2 := d_Model_isIn) (n := 3) (mc2 := 0) (ms2 := 0) (As := [.int x1, .int 0, .int x2]) (st := []) (res2 := (some (.int q2.1), jR0, q2.2)) (by decide +kernel) rfl lk_10_46 mo_Model_isIn ms_Model_isIn ⟨Nat.le_of_ble_eq_true rfl, Nat.le_of_ble_eq_true rfl⟩ rfl rfl (Nat.le_of_ble_eq_true rfl) ⟨Nat.le_refl _, Nat.le_refl _⟩ hG (e_Model_isIn hG hq2) ?_
    refine ev_if_eq (off := 7) (tgt := 20) (by decide +kernel) (by decide) (fun c10 => ?_) (fun c10 => ?_)
    · replace h := jpos c10 h
      refine ev_seg (o := 10) (nL := 6) (q := 21) (xs := [(.iconst (-1), 1, 0, 0, .int (-1))]) (L' := [some (.ref 93), some (.int x1), some (.int x2), some (.int x3), none, none]) (st' := [.int (-1)]) (w' := q2.2) (g := []) (K := []) (by decide +kernel) rfl rfl rfl rfl jk0 ?_
      cases h
      exact ev_iret (by decide +kernel) rfl rfl rfl rfl
    · replace h := jneg c10 h
      refine ev_seg (o := 10) (nL := 6) (q := 17) (xs := [(.iload_n 3, 1, 3, 0, .null)]) (L' := [some (.ref 93), some (.int x1), some (.int x2), some (.int x3), none, none]) (st' := [.int x3]) (w' := q2.2) (g := []) (K := []) (by decide +kernel) rfl rfl rfl rfl jk0 ?_
      refine ev_if_ge (off := 5) (tgt := 22) (by decide +kernel) (by decide) (fun c9 => ?_) (fun c9 => ?_)
      · replace h := jneg c9 h
        refine ev_seg (o := 10) (nL := 6) (q := 28) (xs := [(.iload_n 3, 1, 3, 0, .null), (.istore 4, 2, 4, 0, .null), (.iconst 0, 1, 0, 0, .int 0), (.istore 5, 2, 5, 0, .null)]) (L' := [some (.ref 93), some (.int x1), some (.int x2), some (.int x3), some (.int x3), some (.int 0)]) (st' := []) (w' := q2.2) (g := []) (K := []) (by decide +kernel) rfl rfl rfl rfl jk0 ?_
        refine ev_mask [true, true, true, false, true, true] ?_
        exact t_Model_doubt_h28 hG jfu _ _ _ _ _ _ h
      · replace h := jpos c9 h
        refine ev_seg (o := 10) (nL := 6) (q := 21) (xs := [(.iconst (-1), 1, 0, 0, .int (-1))]) (L' := [some (.ref 93), some (.int x1), some (.int x2), some (.int x3), none, none]) (st' := [.int (-1)]) (w' := q2.2) (g := []) (K := []) (by decide +kernel) rfl rfl rfl rfl jk0 ?_
        cases h
        exact ev_iret (by decide +kernel) rfl rfl rfl rfl
def f_Model_ask (x1 : Int32) (x2 : Int32) (w : jW) : Option (Int32 × jW) :=
  Option.bind (f_Model_isIn x1 0 1 w) fun q1 =>
  if q1.1 = 0 then
    some ((-1), q1.2)
  else
    Option.bind (f_Model_isSite x2 q1.2) fun q2 =>
    if q2.1 = 0 then
      some ((-1), q2.2)
    else
      Option.bind (f_Model_siteAt x2 0 q2.2) fun q3 =>
      if q3.1 = x1 then
        some ((-1), q3.2)
      else
        if jal [jin 10 21000] = true then
        if (q3.2.1 94 (Int32.toNatClampNeg 10)) = 50 then
          some ((-1), q3.2)
        else
          if jal [jin (12880 + (4 * (q3.2.1 94 (Int32.toNatClampNeg 10)))) 21000, jin 10 21000] = true then
          jlw ((jup q3.2.1 94 (Int32.toNatClampNeg (12880 + (4 * (q3.2.1 94 (Int32.toNatClampNeg 10))))) x1), q3.2.2) fun w6 =>
          if jal [jin ((12880 + (4 * (q3.2.1 94 (Int32.toNatClampNeg 10)))) + 1) 21000] = true then
          jlw ((jup w6.1 94 (Int32.toNatClampNeg ((12880 + (4 * (q3.2.1 94 (Int32.toNatClampNeg 10)))) + 1)) x2), w6.2) fun w8 =>
          if jal [jin ((12880 + (4 * (q3.2.1 94 (Int32.toNatClampNeg 10)))) + 2) 21000, jin 0 21000] = true then
          jlw ((jup w8.1 94 (Int32.toNatClampNeg ((12880 + (4 * (q3.2.1 94 (Int32.toNatClampNeg 10)))) + 2)) (w8.1 94 (Int32.toNatClampNeg 0))), w8.2) fun w10 =>
          if jal [jin ((12880 + (4 * (q3.2.1 94 (Int32.toNatClampNeg 10)))) + 3) 21000] = true then
          jlw ((jup w10.1 94 (Int32.toNatClampNeg ((12880 + (4 * (q3.2.1 94 (Int32.toNatClampNeg 10)))) + 3)) (-1)), w10.2) fun w12 =>
          if jal [jin 10 21000] = true then
          Option.bind (f_Model_noted 5 x1 (w12.1 94 (Int32.toNatClampNeg 10)) 0 w12) fun q14 =>
          if jal [jin 10 21000, jin 10 21000] = true then
          jlw ((jup q14.1 94 (Int32.toNatClampNeg 10) ((q14.1 94 (Int32.toNatClampNeg 10)) + 1)), q14.2) fun w16 =>
          if jal [jin 10 21000] = true then
          some (((w16.1 94 (Int32.toNatClampNeg 10)) - 1), w16)
          else none else none
          else none else none else none else none else none
        else none
set_option maxRecDepth 20000 in
theorem e_Model_ask {l : Launch} {G : jG} (hG : jX G) {x1 : Int32} {x2 : Int32} {w : jW} {z : (Int32 × jW)} (h : f_Model_ask x1 x2 w = some z) : Ct l G y_Model_ask d_Model_ask 0 0 [.ref 93, .int x1, .int x2] jR0 w (some (.int z.1), jR0, z.2) := by
  rw [f_Model_ask] at h
  refine Ct.of (L := [some (.ref 93), some (.int x1), some (.int x2), none]) (by decide) (Nat.le_of_ble_eq_true rfl) rfl ?_
  refine ev_seg (o := 10) (nL := 4) (q := 3) (xs := [(.iload_n 1, 1, 1, 0, .null), (.iconst 0, 1, 0, 0, .int 0), (.iconst 1, 1, 0, 0, .int 1)]) (L' := [some (.ref 93), some (.int x1), some (.int x2), none]) (st' := [.int 1, .int 0, .int x1]) (w' := w) (g := []) (K := []) (by decide +kernel) rfl rfl rfl rfl jk0 ?_
  obtain ⟨q1, hq1, h⟩ := jbe h
  refine ev_callS (y2 := y_Model_isIn) (o := 10) (idx := 46) (d2 := d_Model_isIn) (n := 3) (mc2 := 0) (ms2 := 0) (As := [.int x1, .int 0, .int 1]) (st := []) (res2 := (some (.int q1.1), jR0, q1.2)) (by decide +kernel) rfl lk_10_46 mo_Model_isIn ms_Model_isIn ⟨Nat.le_of_ble_eq_true rfl, Nat.le_of_ble_eq_true rfl⟩ rfl rfl (Nat.le_of_ble_eq_true rfl) ⟨Nat.le_refl _, Nat.le_refl _⟩ hG (e_Model_isIn hG hq1) ?_
  refine ev_if_eq (off := 33) (tgt := 39) (by decide +kernel) (by decide) (fun c21 => ?_) (fun c21 => ?_)
  · replace h := jpos c21 h
    refine ev_seg (o := 10) (nL := 4) (q := 40) (xs := [(.iconst (-1), 1, 0, 0, .int (-1))]) (L' := [some (.ref 93), some (.int x1), some (.int x2), none]) (st' := [.int (-1)]) (w' := q1.2) (g := []) (K := []) (by decide +kernel) rfl rfl rfl rfl jk0 ?_
    cases h
    exact ev_iret (by decide +kernel) rfl rfl rfl rfl
  · replace h := jneg c21 h
    refine ev_seg (o := 10) (nL := 4) (q := 11) (xs := [(.aload_n 0, 1, 0, 0, .null), (.iload_n 2, 1, 2, 0, .null)]) (L' := [some (.ref 93), some (.int x1), some (.int x2), none]) (st' := [.int x2, .ref 93]) (w' := q1.2) (g := []) (K := []) (by decide +kernel) rfl rfl rfl rfl jk0 ?_
    obtain ⟨q2, hq2, h⟩ := jbe h
    refine ev_callV (ci := 10) (a := 93) (y2 := y_Model_isSite) (o := 10) (idx := 50) (d2 := d_Model_isSite) (n := 1) (mc2 := 0) (ms2 := 0) (As := [.int x2]) (st := []) (res2 := (some (.int q2.1), jR0, q2.2)) (by decide +kernel) rfl lk_10_50 mo_Model_isSite mv_Model_isSite ⟨Nat.le_of_ble_eq_true rfl, Nat.le_of_ble_eq_true rfl⟩ rfl rfl kz_93 (by decide) rfl (Nat.le_of_ble_eq_true rfl) ⟨Nat.le_refl _, Nat.le_refl _⟩ hG (e_Model_isSite hG hq2) ?_
    refine ev_if_eq (off := 25) (tgt := 39) (by decide +kernel) (by decide) (fun c20 => ?_) (fun c20 => ?_)
    · replace h := jpos c20 h
      refine ev_seg (o := 10) (nL := 4) (q := 40) (xs := [(.iconst (-1), 1, 0, 0, .int (-1))]) (L' := [some (.ref 93), some (.int x1), some (.int x2), none]) (st' := [.int (-1)]) (w' := q2.2) (g := []) (K := []) (by decide +kernel) rfl rfl rfl rfl jk0 ?_
      cases h
      exact ev_iret (by decide +kernel) rfl rfl rfl rfl
    · replace h := jneg c20 h
      refine ev_seg (o := 10) (nL := 4) (q := 20) (xs := [(.aload_n 0, 1, 0, 0, .null), (.iload_n 2, 1, 2, 0, .null), (.iconst 0, 1, 0, 0, .int 0)]) (L' := [some (.ref 93), some (.int x1), some (.int x2), none]) (st' := [.int 0, .int x2, .ref 93]) (w' := q2.2) (g := []) (K := []) (by decide +kernel) rfl rfl rfl rfl jk0 ?_
      obtain ⟨q3, hq3, h⟩ := jbe h
      refine ev_callV (ci := 10) (a := 93) (y2 := y_Model_siteAt) (o := 10) (idx := 54) (d2 := d_Model_siteAt) (n := 2) (mc2 := 0) (ms2 := 0) (As := [.int x2, .int 0]) (st := []) (res2 := (some (.int q3.1), jR0, q3.2)) (by decide +kernel) rfl lk_10_54 mo_Model_siteAt mv_Model_siteAt ⟨Nat.le_of_ble_eq_true rfl, Nat.le_of_ble_eq_true rfl⟩ rfl rfl kz_93 (by decide) rfl (Nat.le_of_ble_eq_true rfl) ⟨Nat.le_refl _, Nat.le_refl _⟩ hG (e_Model_siteAt hG hq3) ?_
      refine ev_seg (o := 10) (nL := 4) (q := 24) (xs := [(.iload_n 1, 1, 1, 0, .null)]) (L' := [some (.ref 93), some (.int x1), some (.int x2), none]) (st' := [.int x1, .int q3.1]) (w' := q3.2) (g := []) (K := []) (by decide +kernel) rfl rfl rfl rfl jk0 ?_
      refine ev_icmp_eq (off := 15) (tgt := 39) (by decide +kernel) (by decide) (fun c19 => ?_) (fun c19 => ?_)
      · replace h := jpos c19 h
        refine ev_seg (o := 10) (nL := 4) (q := 40) (xs := [(.iconst (-1), 1, 0, 0, .int (-1))]) (L' := [some (.ref 93), some (.int x1), some (.int x2), none]) (st' := [.int (-1)]) (w' := q3.2) (g := []) (K := []) (by decide +kernel) rfl rfl rfl rfl jk0 ?_
        cases h
        exact ev_iret (by decide +kernel) rfl rfl rfl rfl
      · replace h := jneg c19 h
        obtain ⟨hg4, h⟩ := jgd h
        refine ev_seg (o := 10) (nL := 4) (q := 36) (xs := [(.aload_n 0, 1, 0, 0, .null), (.getfield 7, 3, 10, 0, .ref 20), (.bipush 10, 2, 0, 0, .int 10), (.iaload, 1, 0, 0, .null), (.bipush 50, 2, 0, 0, .int 50)]) (L' := [some (.ref 93), some (.int x1), some (.int x2), none]) (st' := [.int 50, .int (q3.2.1 94 (Int32.toNatClampNeg 10))]) (w' := q3.2) (g := [jin 10 21000]) (K := [(94, 20), (94, 20), (93, 10)]) (by decide +kernel) rfl rfl rfl hg4 (jk1 kz_94 (jk1 kz_94 (jk1 kz_93 jk0))) ?_
        refine ev_icmp_ne (off := 5) (tgt := 41) (by decide +kernel) (by decide) (fun c18 => ?_) (fun c18 => ?_)
        · replace h := jneg c18 h
          obtain ⟨hg5, h⟩ := jgd h
          refine ev_seg (o := 10) (nL := 4) (q := 62) (xs := [(.sipush 12880, 3, 0, 0, .int 12880), (.iconst 4, 1, 0, 0, .int 4), (.aload_n 0, 1, 0, 0, .null), (.getfield 7, 3, 10, 0, .ref 20), (.bipush 10, 2, 0, 0, .int 10), (.iaload, 1, 0, 0, .null), (.imul, 1, 0, 0, .null), (.iadd, 1, 0, 0, .null), (.istore_n 3, 1, 3, 0, .null), (.aload_n 0, 1, 0, 0, .null), (.getfield 7, 3, 10, 0, .ref 20), (.iload_n 3, 1, 3, 0, .null), (.iload_n 1, 1, 1, 0, .null), (.iastore, 1, 0, 0, .null)]) (L' := [some (.ref 93), some (.int x1), some (.int x2), some (.int (12880 + (4 * (q3.2.1 94 (Int32.toNatClampNeg 10)))))]) (st' := []) (w' := ((jup q3.2.1 94 (Int32.toNatClampNeg (12880 + (4 * (q3.2.1 94 (Int32.toNatClampNeg 10))))) x1), q3.2.2)) (g := [jin (12880 + (4 * (q3.2.1 94 (Int32.toNatClampNeg 10)))) 21000, jin 10 21000]) (K := [(94, 20), (94, 20), (93, 10), (94, 20), (94, 20), (93, 10)]) (by decide +kernel) rfl rfl rfl hg5 (jk1 kz_94 (jk1 kz_94 (jk1 kz_93 (jk1 kz_94 (jk1 kz_94 (jk1 kz_93 jk0)))))) ?_
          refine jlw_c (P := fun w6 => Ev l G (jrm d_Model_ask 0 0) y_Model_ask (some (.int z.1), jR0, z.2) 0 0 0 0 62 [some (.ref 93), some (.int x1), some (.int x2), some (.int (12880 + (4 * (q3.2.1 94 (Int32.toNatClampNeg 10)))))] [] jR0 w6) h fun w6 h => ?_
          obtain ⟨hg7, h⟩ := jgd h
          refine ev_seg (o := 10) (nL := 4) (q := 71) (xs := [(.aload_n 0, 1, 0, 0, .null), (.getfield 7, 3, 10, 0, .ref 20), (.iload_n 3, 1, 3, 0, .null), (.iconst 1, 1, 0, 0, .int 1), (.iadd, 1, 0, 0, .null), (.iload_n 2, 1, 2, 0, .null), (.iastore, 1, 0, 0, .null)]) (L' := [some (.ref 93), some (.int x1), some (.int x2), some (.int (12880 + (4 * (q3.2.1 94 (Int32.toNatClampNeg 10)))))]) (st' := []) (w' := ((jup w6.1 94 (Int32.toNatClampNeg ((12880 + (4 * (q3.2.1 94 (Int32.toNatClampNeg 10)))) + 1)) x2), w6.2)) (g := [jin ((12880 + (4 * (q3.2.1 94 (Int32.toNatClampNeg 10)))) + 1) 21000]) (K := [(94, 20), (94, 20), (93, 10)]) (by decide +kernel) rfl rfl rfl hg7 (jk1 kz_94 (jk1 kz_94 (jk1 kz_93 jk0))) ?_
          refine jlw_c (P := fun w8 => Ev l G (jrm d_Model_ask 0 0) y_Model_ask (some (.int z.1), jR0, z.2) 0 0 0 0 71 [some (.ref 93), some (.int x1), some (.int x2), some (.int (12880 + (4 * (q3.2.1 94 (Int32.toNatClampNeg 10)))))] [] jR0 w8) h fun w8 h => ?_
          obtain ⟨hg9, h⟩ := jgd h
          refine ev_seg (o := 10) (nL := 4) (q := 85) (xs := [(.aload_n 0, 1, 0, 0, .null), (.getfield 7, 3, 10, 0, .ref 20), (.iload_n 3, 1, 3, 0, .null), (.iconst 2, 1, 0, 0, .int 2), (.iadd, 1, 0, 0, .null), (.aload_n 0, 1, 0, 0, .null), (.getfield 7, 3, 10, 0, .ref 20), (.iconst 0, 1, 0, 0, .int 0), (.iaload, 1, 0, 0, .null), (.iastore, 1, 0, 0, .null)]) (L' := [some (.ref 93), some (.int x1), some (.int x2), some (.int (12880 + (4 * (q3.2.1 94 (Int32.toNatClampNeg 10)))))]) (st' := []) (w' := ((jup w8.1 94 (Int32.toNatClampNeg ((12880 + (4 * (q3.2.1 94 (Int32.toNatClampNeg 10)))) + 2)) (w8.1 94 (Int32.toNatClampNeg 0))), w8.2)) (g := [jin ((12880 + (4 * (q3.2.1 94 (Int32.toNatClampNeg 10)))) + 2) 21000, jin 0 21000]) (K := [(94, 20), (94, 20), (94, 20), (93, 10), (94, 20), (93, 10)]) (by decide +kernel) rfl rfl rfl hg9 (jk1 kz_94 (jk1 kz_94 (jk1 kz_94 (jk1 kz_93 (jk1 kz_94 (jk1 kz_93 jk0)))))) ?_
          refine jlw_c (P := fun w10 => Ev l G (jrm d_Model_ask 0 0) y_Model_ask (some (.int z.1), jR0, z.2) 0 0 0 0 85 [some (.ref 93), some (.int x1), some (.int x2), some (.int (12880 + (4 * (q3.2.1 94 (Int32.toNatClampNeg 10)))))] [] jR0 w10) h fun w10 h => ?_
          obtain ⟨hg11, h⟩ := jgd h
          refine ev_seg (o := 10) (nL := 4) (q := 94) (xs := [(.aload_n 0, 1, 0, 0, .null), (.getfield 7, 3, 10, 0, .ref 20), (.iload_n 3, 1, 3, 0, .null), (.iconst 3, 1, 0, 0, .int 3), (.iadd, 1, 0, 0, .null), (.iconst (-1), 1, 0, 0, .int (-1)), (.iastore, 1, 0, 0, .null)]) (L' := [some (.ref 93), some (.int x1), some (.int x2), some (.int (12880 + (4 * (q3.2.1 94 (Int32.toNatClampNeg 10)))))]) (st' := []) (w' := ((jup w10.1 94 (Int32.toNatClampNeg ((12880 + (4 * (q3.2.1 94 (Int32.toNatClampNeg 10)))) + 3)) (-1)), w10.2)) (g := [jin ((12880 + (4 * (q3.2.1 94 (Int32.toNatClampNeg 10)))) + 3) 21000]) (K := [(94, 20), (94, 20), (93, 10)]) (by decide +kernel) rfl rfl rfl hg11 (jk1 kz_94 (jk1 kz_94 (jk1 kz_93 jk0))) ?_
          refine jlw_c (P := fun w12 => Ev l G (jrm d_Model_ask 0 0) y_Model_ask (some (.int z.1), jR0, z.2) 0 0 0 0 94 [some (.ref 93), some (.int x1), some (.int x2), some (.int (12880 + (4 * (q3.2.1 94 (Int32.toNatClampNeg 10)))))] [] jR0 w12) h fun w12 h => ?_
          obtain ⟨hg13, h⟩ := jgd h
          refine ev_seg (o := 10) (nL := 4) (q := 105) (xs := [(.aload_n 0, 1, 0, 0, .null), (.iconst 5, 1, 0, 0, .int 5), (.iload_n 1, 1, 1, 0, .null), (.aload_n 0, 1, 0, 0, .null), (.getfield 7, 3, 10, 0, .ref 20), (.bipush 10, 2, 0, 0, .int 10), (.iaload, 1, 0, 0, .null), (.iconst 0, 1, 0, 0, .int 0)]) (L' := [some (.ref 93), some (.int x1), some (.int x2), some (.int (12880 + (4 * (q3.2.1 94 (Int32.toNatClampNeg 10)))))]) (st' := [.int 0, .int (w12.1 94 (Int32.toNatClampNeg 10)), .int x1, .int 5, .ref 93]) (w' := w12) (g := [jin 10 21000]) (K := [(94, 20), (94, 20), (93, 10)]) (by decide +kernel) rfl rfl rfl hg13 (jk1 kz_94 (jk1 kz_94 (jk1 kz_93 jk0))) ?_
          obtain ⟨q14, hq14, h⟩ := jbe h
          refine ev_callV (ci := 10) (a := 93) (y2 := y_Model_noted) (o := 10) (idx := 62) (d2 := d_Model_noted) (n := 4) (mc2 := 0) (ms2 := 0) (As := [.int 5, .int x1, .int (w12.1 94 (Int32.toNatClampNeg 10)), .int 0]) (st := []) (res2 := (none, jR0, q14)) (by decide +kernel) rfl lk_10_62 mo_Model_noted mv_Model_noted ⟨Nat.le_of_ble_eq_true rfl, Nat.le_of_ble_eq_true rfl⟩ rfl rfl kz_93 (by decide) rfl (Nat.le_of_ble_eq_true rfl) ⟨Nat.le_refl _, Nat.le_refl _⟩ hG (e_Model_noted hG hq14) ?_
          obtain ⟨hg15, h⟩ := jgd h
          refine ev_seg (o := 10) (nL := 4) (q := 119) (xs := [(.aload_n 0, 1, 0, 0, .null), (.getfield 7, 3, 10, 0, .ref 20), (.bipush 10, 2, 0, 0, .int 10), (.dup2, 1, 0, 0, .null), (.iaload, 1, 0, 0, .null), (.iconst 1, 1, 0, 0, .int 1), (.iadd, 1, 0, 0, .null), (.iastore, 1, 0, 0, .null)]) (L' := [some (.ref 93), some (.int x1), some (.int x2), some (.int (12880 + (4 * (q3.2.1 94 (Int32.toNatClampNeg 10)))))]) (st' := []) (w' := ((jup q14.1 94 (Int32.toNatClampNeg 10) ((q14.1 94 (Int32.toNatClampNeg 10)) + 1)), q14.2)) (g := [jin 10 21000, jin 10 21000]) (K := [(94, 20), (94, 20), (94, 20), (93, 10)]) (by decide +kernel) rfl rfl rfl hg15 (jk1 kz_94 (jk1 kz_94 (jk1 kz_94 (jk1 kz_93 jk0)))) ?_
          refine jlw_c (P := fun w16 => Ev l G (jrm d_Model_ask 0 0) y_Model_ask (some (.int z.1), jR0, z.2) 0 0 0 0 119 [some (.ref 93), some (.int x1), some (.int x2), some (.int (12880 + (4 * (q3.2.1 94 (Int32.toNatClampNeg 10)))))] [] jR0 w16) h fun w16 h => ?_
          obtain ⟨hg17, h⟩ := jgd h
          refine ev_seg (o := 10) (nL := 4) (q := 128) (xs := [(.aload_n 0, 1, 0, 0, .null), (.getfield 7, 3, 10, 0, .ref 20), (.bipush 10, 2, 0, 0, .int 10), (.iaload, 1, 0, 0, .null), (.iconst 1, 1, 0, 0, .int 1), (.isub, 1, 0, 0, .null)]) (L' := [some (.ref 93), some (.int x1), some (.int x2), some (.int (12880 + (4 * (q3.2.1 94 (Int32.toNatClampNeg 10)))))]) (st' := [.int ((w16.1 94 (Int32.toNatClampNeg 10)) - 1)]) (w' := w16) (g := [jin 10 21000]) (K := [(94, 20), (94, 20), (93, 10)]) (by decide +kernel) rfl rfl rfl hg17 (jk1 kz_94 (jk1 kz_94 (jk1 kz_93 jk0))) ?_
          cases h
          exact ev_iret (by decide +kernel) rfl rfl rfl rfl
        · replace h := jpos c18 h
          refine ev_seg (o := 10) (nL := 4) (q := 40) (xs := [(.iconst (-1), 1, 0, 0, .int (-1))]) (L' := [some (.ref 93), some (.int x1), some (.int x2), none]) (st' := [.int (-1)]) (w' := q3.2) (g := []) (K := []) (by decide +kernel) rfl rfl rfl rfl jk0 ?_
          cases h
          exact ev_iret (by decide +kernel) rfl rfl rfl rfl
def f_Model_answer (x1 : Int32) (w : jW) : Option (Int32 × jW) :=
  if jal [jin 10 21000] = true then
  Option.bind (f_Model_isIn x1 0 ((w.1 94 (Int32.toNatClampNeg 10)) - 1) w) fun q2 =>
  if q2.1 = 0 then
    some (0, q2.2)
  else
    if jal [jin ((12880 + (4 * x1)) + 3) 21000] = true then
    if (q2.2.1 94 (Int32.toNatClampNeg ((12880 + (4 * x1)) + 3))) < 0 then
      if jal [jin ((12880 + (4 * x1)) + 3) 21000, jin 0 21000] = true then
      jlw ((jup q2.2.1 94 (Int32.toNatClampNeg ((12880 + (4 * x1)) + 3)) (q2.2.1 94 (Int32.toNatClampNeg 0))), q2.2.2) fun w5 =>
      if jal [jin ((12880 + (4 * x1)) + 1) 21000] = true then
      Option.bind (f_Model_siteAt (w5.1 94 (Int32.toNatClampNeg ((12880 + (4 * x1)) + 1))) 0 w5) fun q7 =>
      Option.bind (f_Model_noted 6 q7.1 x1 0 q7.2) fun q8 =>
      some (1, q8)
      else none else none
    else
      some (0, q2.2)
    else none
  else none
set_option maxRecDepth 20000 in
theorem e_Model_answer {l : Launch} {G : jG} (hG : jX G) {x1 : Int32} {w : jW} {z : (Int32 × jW)} (h : f_Model_answer x1 w = some z) : Ct l G y_Model_answer d_Model_answer 0 0 [.ref 93, .int x1] jR0 w (some (.int z.1), jR0, z.2) := by
  rw [f_Model_answer] at h
  refine Ct.of (L := [some (.ref 93), some (.int x1)]) (by decide) (Nat.le_of_ble_eq_true rfl) rfl ?_
  obtain ⟨hg1, h⟩ := jgd h
  refine ev_seg (o := 10) (nL := 2) (q := 11) (xs := [(.iload_n 1, 1, 1, 0, .null), (.iconst 0, 1, 0, 0, .int 0), (.aload_n 0, 1, 0, 0, .null), (.getfield 7, 3, 10, 0, .ref 20), (.bipush 10, 2, 0, 0, .int 10), (.iaload, 1, 0, 0, .null), (.iconst 1, 1, 0, 0, .int 1), (.isub, 1, 0, 0, .null)]) (L' := [some (.ref 93), some (.int x1)]) (st' := [.int ((w.1 94 (Int32.toNatClampNeg 10)) - 1), .int 0, .int x1]) (w' := w) (g := [jin 10 21000]) (K := [(94, 20), (94, 20), (93, 10)]) (by decide +kernel) rfl rfl rfl hg1 (jk1 kz_94 (jk1 kz_94 (jk1 kz_93 jk0))) ?_
  obtain ⟨q2, hq2, h⟩ := jbe h
  refine ev_callS (y2 := y_Model_isIn) (o := 10) (idx := 46) (d2 := d_Model_isIn) (n := 3) (mc2 := 0) (ms2 := 0) (As := [.int x1, .int 0, .int ((w.1 94 (Int32.toNatClampNeg 10)) - 1)]) (st := []) (res2 := (some (.int q2.1), jR0, q2.2)) (by decide +kernel) rfl lk_10_46 mo_Model_isIn ms_Model_isIn ⟨Nat.le_of_ble_eq_true rfl, Nat.le_of_ble_eq_true rfl⟩ rfl rfl (Nat.le_of_ble_eq_true rfl) ⟨Nat.le_refl _, Nat.le_refl _⟩ hG (e_Model_isIn hG hq2) ?_
  refine ev_if_eq (off := 20) (tgt := 34) (by decide +kernel) (by decide) (fun c10 => ?_) (fun c10 => ?_)
  · replace h := jpos c10 h
    refine ev_seg (o := 10) (nL := 2) (q := 35) (xs := [(.iconst 0, 1, 0, 0, .int 0)]) (L' := [some (.ref 93), some (.int x1)]) (st' := [.int 0]) (w' := q2.2) (g := []) (K := []) (by decide +kernel) rfl rfl rfl rfl jk0 ?_
    cases h
    exact ev_zret (by decide +kernel) rfl rfl rfl rfl rfl
  · replace h := jneg c10 h
    obtain ⟨hg3, h⟩ := jgd h
    refine ev_seg (o := 10) (nL := 2) (q := 31) (xs := [(.aload_n 0, 1, 0, 0, .null), (.getfield 7, 3, 10, 0, .ref 20), (.sipush 12880, 3, 0, 0, .int 12880), (.iconst 4, 1, 0, 0, .int 4), (.iload_n 1, 1, 1, 0, .null), (.imul, 1, 0, 0, .null), (.iadd, 1, 0, 0, .null), (.iconst 3, 1, 0, 0, .int 3), (.iadd, 1, 0, 0, .null), (.iaload, 1, 0, 0, .null)]) (L' := [some (.ref 93), some (.int x1)]) (st' := [.int (q2.2.1 94 (Int32.toNatClampNeg ((12880 + (4 * x1)) + 3)))]) (w' := q2.2) (g := [jin ((12880 + (4 * x1)) + 3) 21000]) (K := [(94, 20), (94, 20), (93, 10)]) (by decide +kernel) rfl rfl rfl hg3 (jk1 kz_94 (jk1 kz_94 (jk1 kz_93 jk0))) ?_
    refine ev_if_lt (off := 5) (tgt := 36) (by decide +kernel) (by decide) (fun c9 => ?_) (fun c9 => ?_)
    · replace h := jpos c9 h
      obtain ⟨hg4, h⟩ := jgd h
      refine ev_seg (o := 10) (nL := 2) (q := 56) (xs := [(.aload_n 0, 1, 0, 0, .null), (.getfield 7, 3, 10, 0, .ref 20), (.sipush 12880, 3, 0, 0, .int 12880), (.iconst 4, 1, 0, 0, .int 4), (.iload_n 1, 1, 1, 0, .null), (.imul, 1, 0, 0, .null), (.iadd, 1, 0, 0, .null), (.iconst 3, 1, 0, 0, .int 3), (.iadd, 1, 0, 0, .null), (.aload_n 0, 1, 0, 0, .null), (.getfield 7, 3, 10, 0, .ref 20), (.iconst 0, 1, 0, 0, .int 0), (.iaload, 1, 0, 0, .null), (.iastore, 1, 0, 0, .null)]) (L' := [some (.ref 93), some (.int x1)]) (st' := []) (w' := ((jup q2.2.1 94 (Int32.toNatClampNeg ((12880 + (4 * x1)) + 3)) (q2.2.1 94 (Int32.toNatClampNeg 0))), q2.2.2)) (g := [jin ((12880 + (4 * x1)) + 3) 21000, jin 0 21000]) (K := [(94, 20), (94, 20), (94, 20), (93, 10), (94, 20), (93, 10)]) (by decide +kernel) rfl rfl rfl hg4 (jk1 kz_94 (jk1 kz_94 (jk1 kz_94 (jk1 kz_93 (jk1 kz_94 (jk1 kz_93 jk0)))))) ?_
      refine jlw_c (P := fun w5 => Ev l G (jrm d_Model_answer 0 0) y_Model_answer (some (.int z.1), jR0, z.2) 0 0 0 0 56 [some (.ref 93), some (.int x1)] [] jR0 w5) h fun w5 h => ?_
      obtain ⟨hg6, h⟩ := jgd h
      refine ev_seg (o := 10) (nL := 2) (q := 75) (xs := [(.aload_n 0, 1, 0, 0, .null), (.bipush 6, 2, 0, 0, .int 6), (.aload_n 0, 1, 0, 0, .null), (.aload_n 0, 1, 0, 0, .null), (.getfield 7, 3, 10, 0, .ref 20), (.sipush 12880, 3, 0, 0, .int 12880), (.iconst 4, 1, 0, 0, .int 4), (.iload_n 1, 1, 1, 0, .null), (.imul, 1, 0, 0, .null), (.iadd, 1, 0, 0, .null), (.iconst 1, 1, 0, 0, .int 1), (.iadd, 1, 0, 0, .null), (.iaload, 1, 0, 0, .null), (.iconst 0, 1, 0, 0, .int 0)]) (L' := [some (.ref 93), some (.int x1)]) (st' := [.int 0, .int (w5.1 94 (Int32.toNatClampNeg ((12880 + (4 * x1)) + 1))), .ref 93, .int 6, .ref 93]) (w' := w5) (g := [jin ((12880 + (4 * x1)) + 1) 21000]) (K := [(94, 20), (94, 20), (93, 10)]) (by decide +kernel) rfl rfl rfl hg6 (jk1 kz_94 (jk1 kz_94 (jk1 kz_93 jk0))) ?_
      obtain ⟨q7, hq7, h⟩ := jbe h
      refine ev_callV (ci := 10) (a := 93) (y2 := y_Model_siteAt) (o := 10) (idx := 54) (d2 := d_Model_siteAt) (n := 2) (mc2 := 0) (ms2 := 0) (As := [.int (w5.1 94 (Int32.toNatClampNeg ((12880 + (4 * x1)) + 1))), .int 0]) (st := [.int 6, .ref 93]) (res2 := (some (.int q7.1), jR0, q7.2)) (by decide +kernel) rfl lk_10_54 mo_Model_siteAt mv_Model_siteAt ⟨Nat.le_of_ble_eq_true rfl, Nat.le_of_ble_eq_true rfl⟩ rfl rfl kz_93 (by decide) rfl (Nat.le_of_ble_eq_true rfl) ⟨Nat.le_refl _, Nat.le_refl _⟩ hG (e_Model_siteAt hG hq7) ?_
      refine ev_seg (o := 10) (nL := 2) (q := 80) (xs := [(.iload_n 1, 1, 1, 0, .null), (.iconst 0, 1, 0, 0, .int 0)]) (L' := [some (.ref 93), some (.int x1)]) (st' := [.int 0, .int x1, .int q7.1, .int 6, .ref 93]) (w' := q7.2) (g := []) (K := []) (by decide +kernel) rfl rfl rfl rfl jk0 ?_
      obtain ⟨q8, hq8, h⟩ := jbe h
      refine ev_callV (ci := 10) (a := 93) (y2 := y_Model_noted) (o := 10) (idx := 62) (d2 := d_Model_noted) (n := 4) (mc2 := 0) (ms2 := 0) (As := [.int 6, .int q7.1, .int x1, .int 0]) (st := []) (res2 := (none, jR0, q8)) (by decide +kernel) rfl lk_10_62 mo_Model_noted mv_Model_noted ⟨Nat.le_of_ble_eq_true rfl, Nat.le_of_ble_eq_true rfl⟩ rfl rfl kz_93 (by decide) rfl (Nat.le_of_ble_eq_true rfl) ⟨Nat.le_refl _, Nat.le_refl _⟩ hG (e_Model_noted hG hq8) ?_
      refine ev_seg (o := 10) (nL := 2) (q := 84) (xs := [(.iconst 1, 1, 0, 0, .int 1)]) (L' := [some (.ref 93), some (.int x1)]) (st' := [.int 1]) (w' := q8) (g := []) (K := []) (by decide +kernel) rfl rfl rfl rfl jk0 ?_
      cases h
      exact ev_zret (by decide +kernel) rfl rfl rfl rfl rfl
    · replace h := jneg c9 h
      refine ev_seg (o := 10) (nL := 2) (q := 35) (xs := [(.iconst 0, 1, 0, 0, .int 0)]) (L' := [some (.ref 93), some (.int x1)]) (st' := [.int 0]) (w' := q2.2) (g := []) (K := []) (by decide +kernel) rfl rfl rfl rfl jk0 ?_
      cases h
      exact ev_zret (by decide +kernel) rfl rfl rfl rfl rfl
def f_Model_act (x1 : Int32) (x2 : Int32) (w : jW) : Option (Int32 × jW) :=
  if jal [jin 11 21000] = true then
  Option.bind (f_Model_isIn x1 0 ((w.1 94 (Int32.toNatClampNeg 11)) - 1) w) fun q2 =>
  if q2.1 = 0 then
    some ((-1), q2.2)
  else
    Option.bind (f_Model_isIn x2 0 2 q2.2) fun q3 =>
    if q3.1 = 0 then
      if x2 = 3 then
        if jal [jin (13080 + (8 * x1)) 21000, jin ((13080 + (8 * x1)) + 3) 21000] = true then
        if (q3.2.1 94 (Int32.toNatClampNeg (13080 + (8 * x1)))) = 1 then
          Option.bind (f_Model_moveAt (q3.2.1 94 (Int32.toNatClampNeg ((13080 + (8 * x1)) + 3))) 0 q3.2) fun q6 =>
          some (q6.1, q6.2)
        else
        if (q3.2.1 94 (Int32.toNatClampNeg (13080 + (8 * x1)))) = 2 then
          some ((q3.2.1 94 (Int32.toNatClampNeg ((13080 + (8 * x1)) + 3))), q3.2)
        else
        if (q3.2.1 94 (Int32.toNatClampNeg (13080 + (8 * x1)))) = 3 then
          if jal [jin (9680 + (8 * (q3.2.1 94 (Int32.toNatClampNeg ((13080 + (8 * x1)) + 3))))) 21000] = true then
          some ((q3.2.1 94 (Int32.toNatClampNeg (9680 + (8 * (q3.2.1 94 (Int32.toNatClampNeg ((13080 + (8 * x1)) + 3))))))), q3.2)
          else none
        else
        if (q3.2.1 94 (Int32.toNatClampNeg (13080 + (8 * x1)))) = 4 then
          if jal [jin ((11280 + (12 * (q3.2.1 94 (Int32.toNatClampNeg ((13080 + (8 * x1)) + 3))))) + 1) 21000] = true then
          some ((q3.2.1 94 (Int32.toNatClampNeg ((11280 + (12 * (q3.2.1 94 (Int32.toNatClampNeg ((13080 + (8 * x1)) + 3))))) + 1))), q3.2)
          else none
        else
        if (q3.2.1 94 (Int32.toNatClampNeg (13080 + (8 * x1)))) = 5 then
          if jal [jin ((12880 + (4 * (q3.2.1 94 (Int32.toNatClampNeg ((13080 + (8 * x1)) + 3))))) + 1) 21000] = true then
          some ((q3.2.1 94 (Int32.toNatClampNeg ((12880 + (4 * (q3.2.1 94 (Int32.toNatClampNeg ((13080 + (8 * x1)) + 3))))) + 1))), q3.2)
          else none
        else
          some ((q3.2.1 94 (Int32.toNatClampNeg ((13080 + (8 * x1)) + 3))), q3.2)
        else none
      else
        some ((-1), q3.2)
    else
      if jal [jin ((13080 + (8 * x1)) + x2) 21000] = true then
      some ((q3.2.1 94 (Int32.toNatClampNeg ((13080 + (8 * x1)) + x2))), q3.2)
      else none
  else none
set_option maxRecDepth 20000 in
theorem e_Model_act {l : Launch} {G : jG} (hG : jX G) {x1 : Int32} {x2 : Int32} {w : jW} {z : (Int32 × jW)} (h : f_Model_act x1 x2 w = some z) : Ct l G y_Model_act d_Model_act 0 0 [.ref 93, .int x1, .int x2] jR0 w (some (.int z.1), jR0, z.2) := by
  rw [f_Model_act] at h
  refine Ct.of (L := [some (.ref 93), some (.int x1), some (.int x2), none, none]) (by decide) (Nat.le_of_ble_eq_true rfl) rfl ?_
  obtain ⟨hg1, h⟩ := jgd h
  refine ev_seg (o := 10) (nL := 5) (q := 11) (xs := [(.iload_n 1, 1, 1, 0, .null), (.iconst 0, 1, 0, 0, .int 0), (.aload_n 0, 1, 0, 0, .null), (.getfield 7, 3, 10, 0, .ref 20), (.bipush 11, 2, 0, 0, .int 11), (.iaload, 1, 0, 0, .null), (.iconst 1, 1, 0, 0, .int 1), (.isub, 1, 0, 0, .null)]) (L' := [some (.ref 93), some (.int x1), some (.int x2), none, none]) (st' := [.int ((w.1 94 (Int32.toNatClampNeg 11)) - 1), .int 0, .int x1]) (w' := w) (g := [jin 11 21000]) (K := [(94, 20), (94, 20), (93, 10)]) (by decide +kernel) rfl rfl rfl hg1 (jk1 kz_94 (jk1 kz_94 (jk1 kz_93 jk0))) ?_
  obtain ⟨q2, hq2, h⟩ := jbe h
  refine ev_callS (y2 := y_Model_isIn) (o := 10) (idx := 46) (d2 := d_Model_isIn) (n := 3) (mc2 := 0) (ms2 := 0) (As := [.int x1, .int 0, .int ((w.1 94 (Int32.toNatClampNeg 11)) - 1)]) (st := []) (res2 := (some (.int q2.1), jR0, q2.2)) (by decide +kernel) rfl lk_10_46 mo_Model_isIn ms_Model_isIn ⟨Nat.le_of_ble_eq_true rfl, Nat.le_of_ble_eq_true rfl⟩ rfl rfl (Nat.le_of_ble_eq_true rfl) ⟨Nat.le_refl _, Nat.le_refl _⟩ hG (e_Model_isIn hG hq2) ?_
  refine ev_if_ne (off := 5) (tgt := 19) (by decide +kernel) (by decide) (fun c17 => ?_) (fun c17 => ?_)
  · replace h := jneg c17 h
    refine ev_seg (o := 10) (nL := 5) (q := 31) (xs := [(.sipush 13080, 3, 0, 0, .int 13080), (.bipush 8, 2, 0, 0, .int 8), (.iload_n 1, 1, 1, 0, .null), (.imul, 1, 0, 0, .null), (.iadd, 1, 0, 0, .null), (.istore_n 3, 1, 3, 0, .null), (.iload_n 2, 1, 2, 0, .null), (.iconst 0, 1, 0, 0, .int 0), (.iconst 2, 1, 0, 0, .int 2)]) (L' := [some (.ref 93), some (.int x1), some (.int x2), some (.int (13080 + (8 * x1))), none]) (st' := [.int 2, .int 0, .int x2]) (w' := q2.2) (g := []) (K := []) (by decide +kernel) rfl rfl rfl rfl jk0 ?_
    obtain ⟨q3, hq3, h⟩ := jbe h
    refine ev_callS (y2 := y_Model_isIn) (o := 10) (idx := 46) (d2 := d_Model_isIn) (n := 3) (mc2 := 0) (ms2 := 0) (As := [.int x2, .int 0, .int 2]) (st := []) (res2 := (some (.int q3.1), jR0, q3.2)) (by decide +kernel) rfl lk_10_46 mo_Model_isIn ms_Model_isIn ⟨Nat.le_of_ble_eq_true rfl, Nat.le_of_ble_eq_true rfl⟩ rfl rfl (Nat.le_of_ble_eq_true rfl) ⟨Nat.le_refl _, Nat.le_refl _⟩ hG (e_Model_isIn hG hq3) ?_
    refine ev_if_eq (off := 12) (tgt := 46) (by decide +kernel) (by decide) (fun c16 => ?_) (fun c16 => ?_)
    · replace h := jpos c16 h
      refine ev_seg (o := 10) (nL := 5) (q := 48) (xs := [(.iload_n 2, 1, 2, 0, .null), (.iconst 3, 1, 0, 0, .int 3)]) (L' := [some (.ref 93), some (.int x1), some (.int x2), some (.int (13080 + (8 * x1))), none]) (st' := [.int 3, .int x2]) (w' := q3.2) (g := []) (K := []) (by decide +kernel) rfl rfl rfl rfl jk0 ?_
      refine ev_icmp_eq (off := 5) (tgt := 53) (by decide +kernel) (by decide) (fun c14 => ?_) (fun c14 => ?_)
      · replace h := jpos c14 h
        obtain ⟨hg4, h⟩ := jgd h
        refine ev_seg (o := 10) (nL := 5) (q := 69) (xs := [(.aload_n 0, 1, 0, 0, .null), (.getfield 7, 3, 10, 0, .ref 20), (.iload_n 3, 1, 3, 0, .null), (.iconst 3, 1, 0, 0, .int 3), (.iadd, 1, 0, 0, .null), (.iaload, 1, 0, 0, .null), (.istore 4, 2, 4, 0, .null), (.aload_n 0, 1, 0, 0, .null), (.getfield 7, 3, 10, 0, .ref 20), (.iload_n 3, 1, 3, 0, .null), (.iaload, 1, 0, 0, .null)]) (L' := [some (.ref 93), some (.int x1), some (.int x2), some (.int (13080 + (8 * x1))), some (.int (q3.2.1 94 (Int32.toNatClampNeg ((13080 + (8 * x1)) + 3))))]) (st' := [.int (q3.2.1 94 (Int32.toNatClampNeg (13080 + (8 * x1))))]) (w' := q3.2) (g := [jin (13080 + (8 * x1)) 21000, jin ((13080 + (8 * x1)) + 3) 21000]) (K := [(94, 20), (94, 20), (93, 10), (94, 20), (94, 20), (93, 10)]) (by decide +kernel) rfl rfl rfl hg4 (jk1 kz_94 (jk1 kz_94 (jk1 kz_93 (jk1 kz_94 (jk1 kz_94 (jk1 kz_93 jk0)))))) ?_
        by_cases c5 : (q3.2.1 94 (Int32.toNatClampNeg (13080 + (8 * x1)))) = 1
        · replace h := jpos c5 h
          refine ev_tableIn (dflt := 91) (lo := 1) (hi := 5) (offs := #[35, 91, 43, 58, 75]) (len := 35) (off := 35) (tgt := 104) (by decide +kernel) (by rw [c5]; decide) (by rw [c5]; decide) (by rw [c5]; decide) (by decide) ?_
          refine ev_seg (o := 10) (nL := 5) (q := 108) (xs := [(.aload_n 0, 1, 0, 0, .null), (.iload 4, 2, 4, 0, .null), (.iconst 0, 1, 0, 0, .int 0)]) (L' := [some (.ref 93), some (.int x1), some (.int x2), some (.int (13080 + (8 * x1))), some (.int (q3.2.1 94 (Int32.toNatClampNeg ((13080 + (8 * x1)) + 3))))]) (st' := [.int 0, .int (q3.2.1 94 (Int32.toNatClampNeg ((13080 + (8 * x1)) + 3))), .ref 93]) (w' := q3.2) (g := []) (K := []) (by decide +kernel) rfl rfl rfl rfl jk0 ?_
          obtain ⟨q6, hq6, h⟩ := jbe h
          refine ev_callV (ci := 10) (a := 93) (y2 := y_Model_moveAt) (o := 10) (idx := 69) (d2 := d_Model_moveAt) (n := 2) (mc2 := 0) (ms2 := 0) (As := [.int (q3.2.1 94 (Int32.toNatClampNeg ((13080 + (8 * x1)) + 3))), .int 0]) (st := []) (res2 := (some (.int q6.1), jR0, q6.2)) (by decide +kernel) rfl lk_10_69 mo_Model_moveAt mv_Model_moveAt ⟨Nat.le_of_ble_eq_true rfl, Nat.le_of_ble_eq_true rfl⟩ rfl rfl kz_93 (by decide) rfl (Nat.le_of_ble_eq_true rfl) ⟨Nat.le_refl _, Nat.le_refl _⟩ hG (e_Model_moveAt hG hq6) ?_
          cases h
          exact ev_iret (by decide +kernel) rfl rfl rfl rfl
        · replace h := jneg c5 h
          by_cases c7 : (q3.2.1 94 (Int32.toNatClampNeg (13080 + (8 * x1)))) = 2
          · replace h := jpos c7 h
            refine ev_tableIn (dflt := 91) (lo := 1) (hi := 5) (offs := #[35, 91, 43, 58, 75]) (len := 35) (off := 91) (tgt := 160) (by decide +kernel) (by rw [c7]; decide) (by rw [c7]; decide) (by rw [c7]; decide) (by decide) ?_
            refine ev_seg (o := 10) (nL := 5) (q := 162) (xs := [(.iload 4, 2, 4, 0, .null)]) (L' := [some (.ref 93), some (.int x1), some (.int x2), some (.int (13080 + (8 * x1))), some (.int (q3.2.1 94 (Int32.toNatClampNeg ((13080 + (8 * x1)) + 3))))]) (st' := [.int (q3.2.1 94 (Int32.toNatClampNeg ((13080 + (8 * x1)) + 3)))]) (w' := q3.2) (g := []) (K := []) (by decide +kernel) rfl rfl rfl rfl jk0 ?_
            cases h
            exact ev_iret (by decide +kernel) rfl rfl rfl rfl
          · replace h := jneg c7 h
            by_cases c8 : (q3.2.1 94 (Int32.toNatClampNeg (13080 + (8 * x1)))) = 3
            · replace h := jpos c8 h
              refine ev_tableIn (dflt := 91) (lo := 1) (hi := 5) (offs := #[35, 91, 43, 58, 75]) (len := 35) (off := 43) (tgt := 112) (by decide +kernel) (by rw [c8]; decide) (by rw [c8]; decide) (by rw [c8]; decide) (by decide) ?_
              obtain ⟨hg9, h⟩ := jgd h
              refine ev_seg (o := 10) (nL := 5) (q := 126) (xs := [(.aload_n 0, 1, 0, 0, .null), (.getfield 7, 3, 10, 0, .ref 20), (.sipush 9680, 3, 0, 0, .int 9680), (.bipush 8, 2, 0, 0, .int 8), (.iload 4, 2, 4, 0, .null), (.imul, 1, 0, 0, .null), (.iadd, 1, 0, 0, .null), (.iaload, 1, 0, 0, .null)]) (L' := [some (.ref 93), some (.int x1), some (.int x2), some (.int (13080 + (8 * x1))), some (.int (q3.2.1 94 (Int32.toNatClampNeg ((13080 + (8 * x1)) + 3))))]) (st' := [.int (q3.2.1 94 (Int32.toNatClampNeg (9680 + (8 * (q3.2.1 94 (Int32.toNatClampNeg ((13080 + (8 * x1)) + 3)))))))]) (w' := q3.2) (g := [jin (9680 + (8 * (q3.2.1 94 (Int32.toNatClampNeg ((13080 + (8 * x1)) + 3))))) 21000]) (K := [(94, 20), (94, 20), (93, 10)]) (by decide +kernel) rfl rfl rfl hg9 (jk1 kz_94 (jk1 kz_94 (jk1 kz_93 jk0))) ?_
              cases h
              exact ev_iret (by decide +kernel) rfl rfl rfl rfl
            · replace h := jneg c8 h
              by_cases c10 : (q3.2.1 94 (Int32.toNatClampNeg (13080 + (8 * x1)))) = 4
              · replace h := jpos c10 h
                refine ev_tableIn (dflt := 91) (lo := 1) (hi := 5) (offs := #[35, 91, 43, 58, 75]) (len := 35) (off := 58) (tgt := 127) (by decide +kernel) (by rw [c10]; decide) (by rw [c10]; decide) (by rw [c10]; decide) (by decide) ?_
                obtain ⟨hg11, h⟩ := jgd h
                refine ev_seg (o := 10) (nL := 5) (q := 143) (xs := [(.aload_n 0, 1, 0, 0, .null), (.getfield 7, 3, 10, 0, .ref 20), (.sipush 11280, 3, 0, 0, .int 11280), (.bipush 12, 2, 0, 0, .int 12), (.iload 4, 2, 4, 0, .null), (.imul, 1, 0, 0, .null), (.iadd, 1, 0, 0, .null), (.iconst 1, 1, 0, 0, .int 1), (.iadd, 1, 0, 0, .null), (.iaload, 1, 0, 0, .null)]) (L' := [some (.ref 93), some (.int x1), some (.int x2), some (.int (13080 + (8 * x1))), some (.int (q3.2.1 94 (Int32.toNatClampNeg ((13080 + (8 * x1)) + 3))))]) (st' := [.int (q3.2.1 94 (Int32.toNatClampNeg ((11280 + (12 * (q3.2.1 94 (Int32.toNatClampNeg ((13080 + (8 * x1)) + 3))))) + 1)))]) (w' := q3.2) (g := [jin ((11280 + (12 * (q3.2.1 94 (Int32.toNatClampNeg ((13080 + (8 * x1)) + 3))))) + 1) 21000]) (K := [(94, 20), (94, 20), (93, 10)]) (by decide +kernel) rfl rfl rfl hg11 (jk1 kz_94 (jk1 kz_94 (jk1 kz_93 jk0))) ?_
                cases h
                exact ev_iret (by decide +kernel) rfl rfl rfl rfl
              · replace h := jneg c10 h
                by_cases c12 : (q3.2.1 94 (Int32.toNatClampNeg (13080 + (8 * x1)))) = 5
                · replace h := jpos c12 h
                  refine ev_tableIn (dflt := 91) (lo := 1) (hi := 5) (offs := #[35, 91, 43, 58, 75]) (len := 35) (off := 75) (tgt := 144) (by decide +kernel) (by rw [c12]; decide) (by rw [c12]; decide) (by rw [c12]; decide) (by decide) ?_
                  obtain ⟨hg13, h⟩ := jgd h
                  refine ev_seg (o := 10) (nL := 5) (q := 159) (xs := [(.aload_n 0, 1, 0, 0, .null), (.getfield 7, 3, 10, 0, .ref 20), (.sipush 12880, 3, 0, 0, .int 12880), (.iconst 4, 1, 0, 0, .int 4), (.iload 4, 2, 4, 0, .null), (.imul, 1, 0, 0, .null), (.iadd, 1, 0, 0, .null), (.iconst 1, 1, 0, 0, .int 1), (.iadd, 1, 0, 0, .null), (.iaload, 1, 0, 0, .null)]) (L' := [some (.ref 93), some (.int x1), some (.int x2), some (.int (13080 + (8 * x1))), some (.int (q3.2.1 94 (Int32.toNatClampNeg ((13080 + (8 * x1)) + 3))))]) (st' := [.int (q3.2.1 94 (Int32.toNatClampNeg ((12880 + (4 * (q3.2.1 94 (Int32.toNatClampNeg ((13080 + (8 * x1)) + 3))))) + 1)))]) (w' := q3.2) (g := [jin ((12880 + (4 * (q3.2.1 94 (Int32.toNatClampNeg ((13080 + (8 * x1)) + 3))))) + 1) 21000]) (K := [(94, 20), (94, 20), (93, 10)]) (by decide +kernel) rfl rfl rfl hg13 (jk1 kz_94 (jk1 kz_94 (jk1 kz_93 jk0))) ?_
                  cases h
                  exact ev_iret (by decide +kernel) rfl rfl rfl rfl
                · replace h := jneg c12 h
                  have ec5 := lv_neT (a := 1) c5 rfl
                  have ec7 := lv_neT (a := 2) c7 rfl
                  have ec8 := lv_neT (a := 3) c8 rfl
                  have ec10 := lv_neT (a := 4) c10 rfl
                  have ec12 := lv_neT (a := 5) c12 rfl
                  refine ev_tableOut (dflt := 91) (lo := 1) (hi := 5) (offs := #[35, 91, 43, 58, 75]) (len := 35) (tgt := 160) (by decide +kernel) (by omega) (by decide) ?_
                  refine ev_seg (o := 10) (nL := 5) (q := 162) (xs := [(.iload 4, 2, 4, 0, .null)]) (L' := [some (.ref 93), some (.int x1), some (.int x2), some (.int (13080 + (8 * x1))), some (.int (q3.2.1 94 (Int32.toNatClampNeg ((13080 + (8 * x1)) + 3))))]) (st' := [.int (q3.2.1 94 (Int32.toNatClampNeg ((13080 + (8 * x1)) + 3)))]) (w' := q3.2) (g := []) (K := []) (by decide +kernel) rfl rfl rfl rfl jk0 ?_
                  cases h
                  exact ev_iret (by decide +kernel) rfl rfl rfl rfl
      · replace h := jneg c14 h
        refine ev_seg (o := 10) (nL := 5) (q := 52) (xs := [(.iconst (-1), 1, 0, 0, .int (-1))]) (L' := [some (.ref 93), some (.int x1), some (.int x2), some (.int (13080 + (8 * x1))), none]) (st' := [.int (-1)]) (w' := q3.2) (g := []) (K := []) (by decide +kernel) rfl rfl rfl rfl jk0 ?_
        cases h
        exact ev_iret (by decide +kernel) rfl rfl rfl rfl
    · replace h := jneg c16 h
      obtain ⟨hg15, h⟩ := jgd h
      refine ev_seg (o := 10) (nL := 5) (q := 45) (xs := [(.aload_n 0, 1, 0, 0, .null), (.getfield 7, 3, 10, 0, .ref 20), (.iload_n 3, 1, 3, 0, .null), (.iload_n 2, 1, 2, 0, .null), (.iadd, 1, 0, 0, .null), (.iaload, 1, 0, 0, .null)]) (L' := [some (.ref 93), some (.int x1), some (.int x2), some (.int (13080 + (8 * x1))), none]) (st' := [.int (q3.2.1 94 (Int32.toNatClampNeg ((13080 + (8 * x1)) + x2)))]) (w' := q3.2) (g := [jin ((13080 + (8 * x1)) + x2) 21000]) (K := [(94, 20), (94, 20), (93, 10)]) (by decide +kernel) rfl rfl rfl hg15 (jk1 kz_94 (jk1 kz_94 (jk1 kz_93 jk0))) ?_
      cases h
      exact ev_iret (by decide +kernel) rfl rfl rfl rfl
  · replace h := jpos c17 h
    refine ev_seg (o := 10) (nL := 5) (q := 18) (xs := [(.iconst (-1), 1, 0, 0, .int (-1))]) (L' := [some (.ref 93), some (.int x1), some (.int x2), none, none]) (st' := [.int (-1)]) (w' := q2.2) (g := []) (K := []) (by decide +kernel) rfl rfl rfl rfl jk0 ?_
    cases h
    exact ev_iret (by decide +kernel) rfl rfl rfl rfl
def f_Model_judgedMove_h20 : Nat → Int32 → Int32 → Int32 → Int32 → Int32 → jW → Option (Int32 × jW)
  | 0, _, _, _, _, _, _ => none
  | n + 1, x1, x2, x3, x4, x5, w =>
  if jal [jin 7 21000] = true then
  if x5 < (w.1 94 (Int32.toNatClampNeg 7)) then
    if jal [jin (9680 + (8 * x5)) 21000] = true then
    Option.bind (f_Model_moveAt x1 0 w) fun q6 =>
    if (w.1 94 (Int32.toNatClampNeg (9680 + (8 * x5)))) = q6.1 then
      if jal [jin ((9680 + (8 * x5)) + 1) 21000] = true then
      Option.bind (f_Model_moveAt x1 3 q6.2) fun q8 =>
      if (q6.2.1 94 (Int32.toNatClampNeg ((9680 + (8 * x5)) + 1))) = q8.1 then
        if jal [jin ((9680 + (8 * x5)) + 2) 21000] = true then
        if (q8.2.1 94 (Int32.toNatClampNeg ((9680 + (8 * x5)) + 2))) = x3 then
          if jal [jin ((9680 + (8 * x5)) + 3) 21000] = true then
          if (q8.2.1 94 (Int32.toNatClampNeg ((9680 + (8 * x5)) + 3))) ≤ x4 then
            if jal [jin ((9680 + (8 * x5)) + 3) 21000] = true then
            if (q8.2.1 94 (Int32.toNatClampNeg ((9680 + (8 * x5)) + 3))) ≤ x2 then
              some (0, q8.2)
            else
              (f_Model_judgedMove_h20 n) x1 x2 x3 x4 (x5 + 1) q8.2
            else none
          else
            (f_Model_judgedMove_h20 n) x1 x2 x3 x4 (x5 + 1) q8.2
          else none
        else
          (f_Model_judgedMove_h20 n) x1 x2 x3 x4 (x5 + 1) q8.2
        else none
      else
        (f_Model_judgedMove_h20 n) x1 x2 x3 x4 (x5 + 1) q8.2
      else none
    else
      (f_Model_judgedMove_h20 n) x1 x2 x3 x4 (x5 + 1) q6.2
    else none
  else
    if x2 ≤ x4 then
      some (3, w)
    else
      some (2, w)
  else none
set_option maxRecDepth 20000 in
theorem t_Model_judgedMove_h20 {l : Launch} {G : jG} (hG : jX G) : ∀ (n : Nat) (x1 : Int32) (x2 : Int32) (x3 : Int32) (x4 : Int32) (x5 : Int32) (w : jW) (z : (Int32 × jW)), f_Model_judgedMove_h20 n x1 x2 x3 x4 x5 w = some z → Ev l G (jrm d_Model_judgedMove 0 0) y_Model_judgedMove (some (.int z.1), jR0, z.2) 0 0 0 0 20 [some (.ref 93), some (.int x1), some (.int x2), some (.int x3), some (.int x4), some (.int x5), none] [] jR0 w := by
  intro n
  induction n with
  | zero => intro x1 x2 x3 x4 x5 w z h; simp only [f_Model_judgedMove_h20] at h; cases h
  | succ n ih =>
    intro x1 x2 x3 x4 x5 w z h
    rw [f_Model_judgedMove_h20] at h
    obtain ⟨hg3, h⟩ := jgd h
    refine ev_seg (o := 10) (nL := 7) (q := 29) (xs := [(.iload 5, 2, 5, 0, .null), (.aload_n 0, 1, 0, 0, .null), (.getfield 7, 3, 10, 0, .ref 20), (.bipush 7, 2, 0, 0, .int 7), (.iaload, 1, 0, 0, .null)]) (L' := [some (.ref 93), some (.int x1), some (.int x2), some (.int x3), some (.int x4), some (.int x5), none]) (st' := [.int (w.1 94 (Int32.toNatClampNeg 7)), .int x5]) (w' := w) (g := [jin 7 21000]) (K := [(94, 20), (94, 20), (93, 10)]) (by decide +kernel) rfl rfl rfl hg3 (jk1 kz_94 (jk1 kz_94 (jk1 kz_93 jk0))) ?_
    refine ev_icmp_ge (off := 96) (tgt := 125) (by decide +kernel) (by decide) (fun c17 => ?_) (fun c17 => ?_)
    · replace h := jneg c17 h
      refine ev_seg (o := 10) (nL := 7) (q := 128) (xs := [(.iload_n 2, 1, 2, 0, .null), (.iload 4, 2, 4, 0, .null)]) (L' := [some (.ref 93), some (.int x1), some (.int x2), some (.int x3), some (.int x4), some (.int x5), none]) (st' := [.int x4, .int x2]) (w' := w) (g := []) (K := []) (by decide +kernel) rfl rfl rfl rfl jk0 ?_
      refine ev_icmp_le (off := 7) (tgt := 135) (by decide +kernel) (by decide) (fun c4 => ?_) (fun c4 => ?_)
      · replace h := jpos c4 h
        refine ev_seg (o := 10) (nL := 7) (q := 136) (xs := [(.iconst 3, 1, 0, 0, .int 3)]) (L' := [some (.ref 93), some (.int x1), some (.int x2), some (.int x3), some (.int x4), some (.int x5), none]) (st' := [.int 3]) (w' := w) (g := []) (K := []) (by decide +kernel) rfl rfl rfl rfl jk0 ?_
        cases h
        exact ev_iret (by decide +kernel) rfl rfl rfl rfl
      · replace h := jneg c4 h
        refine ev_seg (o := 10) (nL := 7) (q := 136) (xs := [(.iconst 2, 1, 0, 0, .int 2), (.goto 4, 3, 0, 0, .null)]) (L' := [some (.ref 93), some (.int x1), some (.int x2), some (.int x3), some (.int x4), some (.int x5), none]) (st' := [.int 2]) (w' := w) (g := []) (K := []) (by decide +kernel) rfl rfl rfl rfl jk0 ?_
        cases h
        exact ev_iret (by decide +kernel) rfl rfl rfl rfl
    · replace h := jpos c17 h
      obtain ⟨hg5, h⟩ := jgd h
      refine ev_seg (o := 10) (nL := 7) (q := 53) (xs := [(.sipush 9680, 3, 0, 0, .int 9680), (.bipush 8, 2, 0, 0, .int 8), (.iload 5, 2, 5, 0, .null), (.imul, 1, 0, 0, .null), (.iadd, 1, 0, 0, .null), (.istore 6, 2, 6, 0, .null), (.aload_n 0, 1, 0, 0, .null), (.getfield 7, 3, 10, 0, .ref 20), (.iload 6, 2, 6, 0, .null), (.iaload, 1, 0, 0, .null), (.aload_n 0, 1, 0, 0, .null), (.iload_n 1, 1, 1, 0, .null), (.iconst 0, 1, 0, 0, .int 0)]) (L' := [some (.ref 93), some (.int x1), some (.int x2), some (.int x3), some (.int x4), some (.int x5), some (.int (9680 + (8 * x5)))]) (st' := [.int 0, .int x1, .ref 93, .int (w.1 94 (Int32.toNatClampNeg (9680 + (8 * x5))))]) (w' := w) (g := [jin (9680 + (8 * x5)) 21000]) (K := [(94, 20), (94, 20), (93, 10)]) (by decide +kernel) rfl rfl rfl hg5 (jk1 kz_94 (jk1 kz_94 (jk1 kz_93 jk0))) ?_
      obtain ⟨q6, hq6, h⟩ := jbe h
      refine ev_callV (ci := 10) (a := 93) (y2 := y_Model_moveAt) (o := 10) (idx := 69) (d2 := d_Model_moveAt) (n := 2) (mc2 := 0) (ms2 := 0) (As := [.int x1, .int 0]) (st := [.int (w.1 94 (Int32.toNatClampNeg (9680 + (8 * x5))))]) (res2 := (some (.int q6.1), jR0, q6.2)) (by decide +kernel) rfl lk_10_69 mo_Model_moveAt mv_Model_moveAt ⟨Nat.le_of_ble_eq_true rfl, Nat.le_of_ble_eq_true rfl⟩ rfl rfl kz_93 (by decide) rfl (Nat.le_of_ble_eq_true rfl) ⟨Nat.le_refl _, Nat.le_refl _⟩ hG (e_Model_moveAt hG hq6) ?_
      refine ev_icmp_ne (off := 63) (tgt := 119) (by decide +kernel) (by decide) (fun c16 => ?_) (fun c16 => ?_)
      · replace h := jneg c16 h
        refine ev_seg (o := 10) (nL := 7) (q := 20) (xs := [(.iinc 5 1, 3, 5, 0, .int 1), (.goto (-102), 3, 0, 0, .null)]) (L' := [some (.ref 93), some (.int x1), some (.int x2), some (.int x3), some (.int x4), some (.int (x5 + 1)), some (.int (9680 + (8 * x5)))]) (st' := []) (w' := q6.2) (g := []) (K := []) (by decide +kernel) rfl rfl rfl rfl jk0 ?_
        refine ev_mask [true, true, true, true, true, true, false] ?_
        exact ih _ _ _ _ _ _ _ h
      · replace h := jpos c16 h
        obtain ⟨hg7, h⟩ := jgd h
        refine ev_seg (o := 10) (nL := 7) (q := 71) (xs := [(.aload_n 0, 1, 0, 0, .null), (.getfield 7, 3, 10, 0, .ref 20), (.iload 6, 2, 6, 0, .null), (.iconst 1, 1, 0, 0, .int 1), (.iadd, 1, 0, 0, .null), (.iaload, 1, 0, 0, .null), (.aload_n 0, 1, 0, 0, .null), (.iload_n 1, 1, 1, 0, .null), (.iconst 3, 1, 0, 0, .int 3)]) (L' := [some (.ref 93), some (.int x1), some (.int x2), some (.int x3), some (.int x4), some (.int x5), some (.int (9680 + (8 * x5)))]) (st' := [.int 3, .int x1, .ref 93, .int (q6.2.1 94 (Int32.toNatClampNeg ((9680 + (8 * x5)) + 1)))]) (w' := q6.2) (g := [jin ((9680 + (8 * x5)) + 1) 21000]) (K := [(94, 20), (94, 20), (93, 10)]) (by decide +kernel) rfl rfl rfl hg7 (jk1 kz_94 (jk1 kz_94 (jk1 kz_93 jk0))) ?_
        obtain ⟨q8, hq8, h⟩ := jbe h
        refine ev_callV (ci := 10) (a := 93) (y2 := y_Model_moveAt) (o := 10) (idx := 69) (d2 := d_Model_moveAt) (n := 2) (mc2 := 0) (ms2 := 0) (As := [.int x1, .int 3]) (st := [.int (q6.2.1 94 (Int32.toNatClampNeg ((9680 + (8 * x5)) + 1)))]) (res2 := (some (.int q8.1), jR0, q8.2)) (by decide +kernel) rfl lk_10_69 mo_Model_moveAt mv_Model_moveAt ⟨Nat.le_of_ble_eq_true rfl, Nat.le_of_ble_eq_true rfl⟩ rfl rfl kz_93 (by decide) rfl (Nat.le_of_ble_eq_true rfl) ⟨Nat.le_refl _, Nat.le_refl _⟩ hG (e_Model_moveAt hG hq8) ?_
        refine ev_icmp_ne (off := 45) (tgt := 119) (by decide +kernel) (by decide) (fun c15 => ?_) (fun c15 => ?_)
        · replace h := jneg c15 h
          refine ev_seg (o := 10) (nL := 7) (q := 20) (xs := [(.iinc 5 1, 3, 5, 0, .int 1), (.goto (-102), 3, 0, 0, .null)]) (L' := [some (.ref 93), some (.int x1), some (.int x2), some (.int x3), some (.int x4), some (.int (x5 + 1)), some (.int (9680 + (8 * x5)))]) (st' := []) (w' := q8.2) (g := []) (K := []) (by decide +kernel) rfl rfl rfl rfl jk0 ?_
          refine ev_mask [true, true, true, true, true, true, false] ?_
          exact ih _ _ _ _ _ _ _ h
        · replace h := jpos c15 h
          obtain ⟨hg9, h⟩ := jgd h
          refine ev_seg (o := 10) (nL := 7) (q := 87) (xs := [(.aload_n 0, 1, 0, 0, .null), (.getfield 7, 3, 10, 0, .ref 20), (.iload 6, 2, 6, 0, .null), (.iconst 2, 1, 0, 0, .int 2), (.iadd, 1, 0, 0, .null), (.iaload, 1, 0, 0, .null), (.iload_n 3, 1, 3, 0, .null)]) (L' := [some (.ref 93), some (.int x1), some (.int x2), some (.int x3), some (.int x4), some (.int x5), some (.int (9680 + (8 * x5)))]) (st' := [.int x3, .int (q8.2.1 94 (Int32.toNatClampNeg ((9680 + (8 * x5)) + 2)))]) (w' := q8.2) (g := [jin ((9680 + (8 * x5)) + 2) 21000]) (K := [(94, 20), (94, 20), (93, 10)]) (by decide +kernel) rfl rfl rfl hg9 (jk1 kz_94 (jk1 kz_94 (jk1 kz_93 jk0))) ?_
          refine ev_icmp_ne (off := 32) (tgt := 119) (by decide +kernel) (by decide) (fun c14 => ?_) (fun c14 => ?_)
          · replace h := jneg c14 h
            refine ev_seg (o := 10) (nL := 7) (q := 20) (xs := [(.iinc 5 1, 3, 5, 0, .int 1), (.goto (-102), 3, 0, 0, .null)]) (L' := [some (.ref 93), some (.int x1), some (.int x2), some (.int x3), some (.int x4), some (.int (x5 + 1)), some (.int (9680 + (8 * x5)))]) (st' := []) (w' := q8.2) (g := []) (K := []) (by decide +kernel) rfl rfl rfl rfl jk0 ?_
            refine ev_mask [true, true, true, true, true, true, false] ?_
            exact ih _ _ _ _ _ _ _ h
          · replace h := jpos c14 h
            obtain ⟨hg10, h⟩ := jgd h
            refine ev_seg (o := 10) (nL := 7) (q := 101) (xs := [(.aload_n 0, 1, 0, 0, .null), (.getfield 7, 3, 10, 0, .ref 20), (.iload 6, 2, 6, 0, .null), (.iconst 3, 1, 0, 0, .int 3), (.iadd, 1, 0, 0, .null), (.iaload, 1, 0, 0, .null), (.iload 4, 2, 4, 0, .null)]) (L' := [some (.ref 93), some (.int x1), some (.int x2), some (.int x3), some (.int x4), some (.int x5), some (.int (9680 + (8 * x5)))]) (st' := [.int x4, .int (q8.2.1 94 (Int32.toNatClampNeg ((9680 + (8 * x5)) + 3)))]) (w' := q8.2) (g := [jin ((9680 + (8 * x5)) + 3) 21000]) (K := [(94, 20), (94, 20), (93, 10)]) (by decide +kernel) rfl rfl rfl hg10 (jk1 kz_94 (jk1 kz_94 (jk1 kz_93 jk0))) ?_
            refine ev_icmp_gt (off := 18) (tgt := 119) (by decide +kernel) (by decide) (fun c13 => ?_) (fun c13 => ?_)
            · replace h := jneg c13 h
              refine ev_seg (o := 10) (nL := 7) (q := 20) (xs := [(.iinc 5 1, 3, 5, 0, .int 1), (.goto (-102), 3, 0, 0, .null)]) (L' := [some (.ref 93), some (.int x1), some (.int x2), some (.int x3), some (.int x4), some (.int (x5 + 1)), some (.int (9680 + (8 * x5)))]) (st' := []) (w' := q8.2) (g := []) (K := []) (by decide +kernel) rfl rfl rfl rfl jk0 ?_
              refine ev_mask [true, true, true, true, true, true, false] ?_
              exact ih _ _ _ _ _ _ _ h
            · replace h := jpos c13 h
              obtain ⟨hg11, h⟩ := jgd h
              refine ev_seg (o := 10) (nL := 7) (q := 114) (xs := [(.aload_n 0, 1, 0, 0, .null), (.getfield 7, 3, 10, 0, .ref 20), (.iload 6, 2, 6, 0, .null), (.iconst 3, 1, 0, 0, .int 3), (.iadd, 1, 0, 0, .null), (.iaload, 1, 0, 0, .null), (.iload_n 2, 1, 2, 0, .null)]) (L' := [some (.ref 93), some (.int x1), some (.int x2), some (.int x3), some (.int x4), some (.int x5), some (.int (9680 + (8 * x5)))]) (st' := [.int x2, .int (q8.2.1 94 (Int32.toNatClampNeg ((9680 + (8 * x5)) + 3)))]) (w' := q8.2) (g := [jin ((9680 + (8 * x5)) + 3) 21000]) (K := [(94, 20), (94, 20), (93, 10)]) (by decide +kernel) rfl rfl rfl hg11 (jk1 kz_94 (jk1 kz_94 (jk1 kz_93 jk0))) ?_
              refine ev_icmp_gt (off := 5) (tgt := 119) (by decide +kernel) (by decide) (fun c12 => ?_) (fun c12 => ?_)
              · replace h := jneg c12 h
                refine ev_seg (o := 10) (nL := 7) (q := 20) (xs := [(.iinc 5 1, 3, 5, 0, .int 1), (.goto (-102), 3, 0, 0, .null)]) (L' := [some (.ref 93), some (.int x1), some (.int x2), some (.int x3), some (.int x4), some (.int (x5 + 1)), some (.int (9680 + (8 * x5)))]) (st' := []) (w' := q8.2) (g := []) (K := []) (by decide +kernel) rfl rfl rfl rfl jk0 ?_
                refine ev_mask [true, true, true, true, true, true, false] ?_
                exact ih _ _ _ _ _ _ _ h
              · replace h := jpos c12 h
                refine ev_seg (o := 10) (nL := 7) (q := 118) (xs := [(.iconst 0, 1, 0, 0, .int 0)]) (L' := [some (.ref 93), some (.int x1), some (.int x2), some (.int x3), some (.int x4), some (.int x5), some (.int (9680 + (8 * x5)))]) (st' := [.int 0]) (w' := q8.2) (g := []) (K := []) (by decide +kernel) rfl rfl rfl rfl jk0 ?_
                cases h
                exact ev_iret (by decide +kernel) rfl rfl rfl rfl
def f_Model_judgedMove (x1 : Int32) (x2 : Int32) (w : jW) : Option (Int32 × jW) :=
  Option.bind (f_Model_moveAt x1 4 w) fun q1 =>
  Option.bind (f_Model_saysOf q1.1 1 q1.2) fun q2 =>
  f_Model_judgedMove_h20 jfu x1 x2 q1.1 (q1.1 + q2.1) 0 q2.2
set_option maxRecDepth 20000 in
theorem e_Model_judgedMove {l : Launch} {G : jG} (hG : jX G) {x1 : Int32} {x2 : Int32} {w : jW} {z : (Int32 × jW)} (h : f_Model_judgedMove x1 x2 w = some z) : Ct l G y_Model_judgedMove d_Model_judgedMove 0 0 [.ref 93, .int x1, .int x2] jR0 w (some (.int z.1), jR0, z.2) := by
  rw [f_Model_judgedMove] at h
  refine Ct.of (L := [some (.ref 93), some (.int x1), some (.int x2), none, none, none, none]) (by decide) (Nat.le_of_ble_eq_true rfl) rfl ?_
  refine ev_seg (o := 10) (nL := 7) (q := 3) (xs := [(.aload_n 0, 1, 0, 0, .null), (.iload_n 1, 1, 1, 0, .null), (.iconst 4, 1, 0, 0, .int 4)]) (L' := [some (.ref 93), some (.int x1), some (.int x2), none, none, none, none]) (st' := [.int 4, .int x1, .ref 93]) (w' := w) (g := []) (K := []) (by decide +kernel) rfl rfl rfl rfl jk0 ?_
  obtain ⟨q1, hq1, h⟩ := jbe h
  refine ev_callV (ci := 10) (a := 93) (y2 := y_Model_moveAt) (o := 10) (idx := 69) (d2 := d_Model_moveAt) (n := 2) (mc2 := 0) (ms2 := 0) (As := [.int x1, .int 4]) (st := []) (res2 := (some (.int q1.1), jR0, q1.2)) (by decide +kernel) rfl lk_10_69 mo_Model_moveAt mv_Model_moveAt ⟨Nat.le_of_ble_eq_true rfl, Nat.le_of_ble_eq_true rfl⟩ rfl rfl kz_93 (by decide) rfl (Nat.le_of_ble_eq_true rfl) ⟨Nat.le_refl _, Nat.le_refl _⟩ hG (e_Model_moveAt hG hq1) ?_
  refine ev_seg (o := 10) (nL := 7) (q := 11) (xs := [(.istore_n 3, 1, 3, 0, .null), (.iload_n 3, 1, 3, 0, .null), (.aload_n 0, 1, 0, 0, .null), (.iload_n 3, 1, 3, 0, .null), (.iconst 1, 1, 0, 0, .int 1)]) (L' := [some (.ref 93), some (.int x1), some (.int x2), some (.int q1.1), none, none, none]) (st' := [.int 1, .int q1.1, .ref 93, .int q1.1]) (w' := q1.2) (g := []) (K := []) (by decide +kernel) rfl rfl rfl rfl jk0 ?_
  obtain ⟨q2, hq2, h⟩ := jbe h
  refine ev_callV (ci := 10) (a := 93) (y2 := y_Model_saysOf) (o := 10) (idx := 81) (d2 := d_Model_saysOf) (n := 2) (mc2 := 0) (ms2 := 0) (As := [.int q1.1, .int 1]) (st := [.int q1.1]) (res2 := (some (.int q2.1), jR0, q2.2)) (by decide +kernel) rfl lk_10_81 mo_Model_saysOf mv_Model_saysOf ⟨Nat.le_of_ble_eq_true rfl, Nat.le_of_ble_eq_true rfl⟩ rfl rfl kz_93 (by decide) rfl (Nat.le_of_ble_eq_true rfl) ⟨Nat.le_refl _, Nat.le_refl _⟩ hG (e_Model_saysOf hG hq2) ?_
  refine ev_seg (o := 10) (nL := 7) (q := 20) (xs := [(.iadd, 1, 0, 0, .null), (.istore 4, 2, 4, 0, .null), (.iconst 0, 1, 0, 0, .int 0), (.istore 5, 2, 5, 0, .null)]) (L' := [some (.ref 93), some (.int x1), some (.int x2), some (.int q1.1), some (.int (q1.1 + q2.1)), some (.int 0), none]) (st' := []) (w' := q2.2) (g := []) (K := []) (by decide +kernel) rfl rfl rfl rfl jk0 ?_
  refine ev_mask [true, true, true, true, true, true, false] ?_
  exact t_Model_judgedMove_h20 hG jfu _ _ _ _ _ _ _ h
def f_Model_judgedVisit_h14 : Nat → Int32 → Int32 → Int32 → Int32 → jW → Option (Int32 × jW)
  | 0, _, _, _, _, _ => none
  | n + 1, x1, x2, x3, x4, w =>
  if x4 < x1 then
    if jal [jin x2 21000, jin (11280 + (12 * x4)) 21000] = true then
    if (w.1 94 (Int32.toNatClampNeg (11280 + (12 * x4)))) = (w.1 94 (Int32.toNatClampNeg x2)) then
      if jal [!(360 == 0), jin (x2 + 2) 21000, !(360 == 0), jin ((11280 + (12 * x4)) + 2) 21000] = true then
      if ((w.1 94 (Int32.toNatClampNeg ((11280 + (12 * x4)) + 2))) / 360) = ((w.1 94 (Int32.toNatClampNeg (x2 + 2))) / 360) then
        (f_Model_judgedVisit_h14 n) x1 x2 (x3 + 1) (x4 + 1) w
      else
        (f_Model_judgedVisit_h14 n) x1 x2 (x3 + 0) (x4 + 1) w
      else none
    else
      (f_Model_judgedVisit_h14 n) x1 x2 (x3 + 0) (x4 + 1) w
    else none
  else
    if jal [jin (x2 + 2) 21000] = true then
    Option.bind (f_Model_saysOf (w.1 94 (Int32.toNatClampNeg (x2 + 2))) 2 w) fun q2 =>
    if x3 < q2.1 then
      some (0, q2.2)
    else
      some (6, q2.2)
    else none
set_option maxRecDepth 20000 in
theorem t_Model_judgedVisit_h14 {l : Launch} {G : jG} (hG : jX G) : ∀ (n : Nat) (x1 : Int32) (x2 : Int32) (x3 : Int32) (x4 : Int32) (w : jW) (z : (Int32 × jW)), f_Model_judgedVisit_h14 n x1 x2 x3 x4 w = some z → Ev l G (jrm d_Model_judgedVisit 0 0) y_Model_judgedVisit (some (.int z.1), jR0, z.2) 0 0 0 0 14 [some (.ref 93), some (.int x1), some (.int x2), some (.int x3), some (.int x4)] [] jR0 w := by
  intro n
  induction n with
  | zero => intro x1 x2 x3 x4 w z h; simp only [f_Model_judgedVisit_h14] at h; cases h
  | succ n ih =>
    intro x1 x2 x3 x4 w z h
    rw [f_Model_judgedVisit_h14] at h
    refine ev_seg (o := 10) (nL := 5) (q := 17) (xs := [(.iload 4, 2, 4, 0, .null), (.iload_n 1, 1, 1, 0, .null)]) (L' := [some (.ref 93), some (.int x1), some (.int x2), some (.int x3), some (.int x4)]) (st' := [.int x1, .int x4]) (w' := w) (g := []) (K := []) (by decide +kernel) rfl rfl rfl rfl jk0 ?_
    refine ev_icmp_ge (off := 75) (tgt := 92) (by decide +kernel) (by decide) (fun c8 => ?_) (fun c8 => ?_)
    · replace h := jneg c8 h
      obtain ⟨hg1, h⟩ := jgd h
      refine ev_seg (o := 10) (nL := 5) (q := 103) (xs := [(.iload_n 3, 1, 3, 0, .null), (.aload_n 0, 1, 0, 0, .null), (.aload_n 0, 1, 0, 0, .null), (.getfield 7, 3, 10, 0, .ref 20), (.iload_n 2, 1, 2, 0, .null), (.iconst 2, 1, 0, 0, .int 2), (.iadd, 1, 0, 0, .null), (.iaload, 1, 0, 0, .null), (.iconst 2, 1, 0, 0, .int 2)]) (L' := [some (.ref 93), some (.int x1), some (.int x2), some (.int x3), some (.int x4)]) (st' := [.int 2, .int (w.1 94 (Int32.toNatClampNeg (x2 + 2))), .ref 93, .int x3]) (w' := w) (g := [jin (x2 + 2) 21000]) (K := [(94, 20), (94, 20), (93, 10)]) (by decide +kernel) rfl rfl rfl hg1 (jk1 kz_94 (jk1 kz_94 (jk1 kz_93 jk0))) ?_
      obtain ⟨q2, hq2, h⟩ := jbe h
      refine ev_callV (ci := 10) (a := 93) (y2 := y_Model_saysOf) (o := 10) (idx := 81) (d2 := d_Model_saysOf) (n := 2) (mc2 := 0) (ms2 := 0) (As := [.int (w.1 94 (Int32.toNatClampNeg (x2 + 2))), .int 2]) (st := [.int x3]) (res2 := (some (.int q2.1), jR0, q2.2)) (by decide +kernel) rfl lk_10_81 mo_Model_saysOf mv_Model_saysOf ⟨Nat.le_of_ble_eq_true rfl, Nat.le_of_ble_eq_true rfl⟩ rfl rfl kz_93 (by decide) rfl (Nat.le_of_ble_eq_true rfl) ⟨Nat.le_refl _, Nat.le_refl _⟩ hG (e_Model_saysOf hG hq2) ?_
      refine ev_icmp_lt (off := 8) (tgt := 114) (by decide +kernel) (by decide) (fun c3 => ?_) (fun c3 => ?_)
      · replace h := jpos c3 h
        refine ev_seg (o := 10) (nL := 5) (q := 115) (xs := [(.iconst 0, 1, 0, 0, .int 0)]) (L' := [some (.ref 93), some (.int x1), some (.int x2), some (.int x3), some (.int x4)]) (st' := [.int 0]) (w' := q2.2) (g := []) (K := []) (by decide +kernel) rfl rfl rfl rfl jk0 ?_
        cases h
        exact ev_iret (by decide +kernel) rfl rfl rfl rfl
      · replace h := jneg c3 h
        refine ev_seg (o := 10) (nL := 5) (q := 115) (xs := [(.bipush 6, 2, 0, 0, .int 6), (.goto 4, 3, 0, 0, .null)]) (L' := [some (.ref 93), some (.int x1), some (.int x2), some (.int x3), some (.int x4)]) (st' := [.int 6]) (w' := q2.2) (g := []) (K := []) (by decide +kernel) rfl rfl rfl rfl jk0 ?_
        cases h
        exact ev_iret (by decide +kernel) rfl rfl rfl rfl
    · replace h := jpos c8 h
      obtain ⟨hg4, h⟩ := jgd h
      refine ev_seg (o := 10) (nL := 5) (q := 41) (xs := [(.iload_n 3, 1, 3, 0, .null), (.aload_n 0, 1, 0, 0, .null), (.getfield 7, 3, 10, 0, .ref 20), (.sipush 11280, 3, 0, 0, .int 11280), (.bipush 12, 2, 0, 0, .int 12), (.iload 4, 2, 4, 0, .null), (.imul, 1, 0, 0, .null), (.iadd, 1, 0, 0, .null), (.iaload, 1, 0, 0, .null), (.aload_n 0, 1, 0, 0, .null), (.getfield 7, 3, 10, 0, .ref 20), (.iload_n 2, 1, 2, 0, .null), (.iaload, 1, 0, 0, .null)]) (L' := [some (.ref 93), some (.int x1), some (.int x2), some (.int x3), some (.int x4)]) (st' := [.int (w.1 94 (Int32.toNatClampNeg x2)), .int (w.1 94 (Int32.toNatClampNeg (11280 + (12 * x4)))), .int x3]) (w' := w) (g := [jin x2 21000, jin (11280 + (12 * x4)) 21000]) (K := [(94, 20), (94, 20), (93, 10), (94, 20), (94, 20), (93, 10)]) (by decide +kernel) rfl rfl rfl hg4 (jk1 kz_94 (jk1 kz_94 (jk1 kz_93 (jk1 kz_94 (jk1 kz_94 (jk1 kz_93 jk0)))))) ?_
      refine ev_icmp_ne (off := 42) (tgt := 83) (by decide +kernel) (by decide) (fun c7 => ?_) (fun c7 => ?_)
      · replace h := jneg c7 h
        refine ev_seg (o := 10) (nL := 5) (q := 14) (xs := [(.iconst 0, 1, 0, 0, .int 0), (.iadd, 1, 0, 0, .null), (.istore_n 3, 1, 3, 0, .null), (.iinc 4 1, 3, 4, 0, .int 1), (.goto (-75), 3, 0, 0, .null)]) (L' := [some (.ref 93), some (.int x1), some (.int x2), some (.int (x3 + 0)), some (.int (x4 + 1))]) (st' := []) (w' := w) (g := []) (K := []) (by decide +kernel) rfl rfl rfl rfl jk0 ?_
        refine ev_mask [true, true, true, true, true] ?_
        exact ih _ _ _ _ _ _ h
      · replace h := jpos c7 h
        obtain ⟨hg5, h⟩ := jgd h
        refine ev_seg (o := 10) (nL := 5) (q := 76) (xs := [(.aload_n 0, 1, 0, 0, .null), (.getfield 7, 3, 10, 0, .ref 20), (.sipush 11280, 3, 0, 0, .int 11280), (.bipush 12, 2, 0, 0, .int 12), (.iload 4, 2, 4, 0, .null), (.imul, 1, 0, 0, .null), (.iadd, 1, 0, 0, .null), (.iconst 2, 1, 0, 0, .int 2), (.iadd, 1, 0, 0, .null), (.iaload, 1, 0, 0, .null), (.sipush 360, 3, 0, 0, .int 360), (.idiv, 1, 0, 0, .null), (.aload_n 0, 1, 0, 0, .null), (.getfield 7, 3, 10, 0, .ref 20), (.iload_n 2, 1, 2, 0, .null), (.iconst 2, 1, 0, 0, .int 2), (.iadd, 1, 0, 0, .null), (.iaload, 1, 0, 0, .null), (.sipush 360, 3, 0, 0, .int 360), (.idiv, 1, 0, 0, .null)]) (L' := [some (.ref 93), some (.int x1), some (.int x2), some (.int x3), some (.int x4)]) (st' := [.int ((w.1 94 (Int32.toNatClampNeg (x2 + 2))) / 360), .int ((w.1 94 (Int32.toNatClampNeg ((11280 + (12 * x4)) + 2))) / 360), .int x3]) (w' := w) (g := [!(360 == 0), jin (x2 + 2) 21000, !(360 == 0), jin ((11280 + (12 * x4)) + 2) 21000]) (K := [(94, 20), (94, 20), (93, 10), (94, 20), (94, 20), (93, 10)]) (by decide +kernel) rfl rfl rfl hg5 (jk1 kz_94 (jk1 kz_94 (jk1 kz_93 (jk1 kz_94 (jk1 kz_94 (jk1 kz_93 jk0)))))) ?_
        refine ev_icmp_ne (off := 7) (tgt := 83) (by decide +kernel) (by decide) (fun c6 => ?_) (fun c6 => ?_)
        · replace h := jneg c6 h
          refine ev_seg (o := 10) (nL := 5) (q := 14) (xs := [(.iconst 0, 1, 0, 0, .int 0), (.iadd, 1, 0, 0, .null), (.istore_n 3, 1, 3, 0, .null), (.iinc 4 1, 3, 4, 0, .int 1), (.goto (-75), 3, 0, 0, .null)]) (L' := [some (.ref 93), some (.int x1), some (.int x2), some (.int (x3 + 0)), some (.int (x4 + 1))]) (st' := []) (w' := w) (g := []) (K := []) (by decide +kernel) rfl rfl rfl rfl jk0 ?_
          refine ev_mask [true, true, true, true, true] ?_
          exact ih _ _ _ _ _ _ h
        · replace h := jpos c6 h
          refine ev_seg (o := 10) (nL := 5) (q := 14) (xs := [(.iconst 1, 1, 0, 0, .int 1), (.goto 4, 3, 0, 0, .null), (.iadd, 1, 0, 0, .null), (.istore_n 3, 1, 3, 0, .null), (.iinc 4 1, 3, 4, 0, .int 1), (.goto (-75), 3, 0, 0, .null)]) (L' := [some (.ref 93), some (.int x1), some (.int x2), some (.int (x3 + 1)), some (.int (x4 + 1))]) (st' := []) (w' := w) (g := []) (K := []) (by decide +kernel) rfl rfl rfl rfl jk0 ?_
          refine ev_mask [true, true, true, true, true] ?_
          exact ih _ _ _ _ _ _ h
def f_Model_judgedVisit (x1 : Int32) (w : jW) : Option (Int32 × jW) :=
  f_Model_judgedVisit_h14 jfu x1 (11280 + (12 * x1)) 0 0 w
set_option maxRecDepth 20000 in
theorem e_Model_judgedVisit {l : Launch} {G : jG} (hG : jX G) {x1 : Int32} {w : jW} {z : (Int32 × jW)} (h : f_Model_judgedVisit x1 w = some z) : Ct l G y_Model_judgedVisit d_Model_judgedVisit 0 0 [.ref 93, .int x1] jR0 w (some (.int z.1), jR0, z.2) := by
  rw [f_Model_judgedVisit] at h
  refine Ct.of (L := [some (.ref 93), some (.int x1), none, none, none]) (by decide) (Nat.le_of_ble_eq_true rfl) rfl ?_
  refine ev_seg (o := 10) (nL := 5) (q := 14) (xs := [(.sipush 11280, 3, 0, 0, .int 11280), (.bipush 12, 2, 0, 0, .int 12), (.iload_n 1, 1, 1, 0, .null), (.imul, 1, 0, 0, .null), (.iadd, 1, 0, 0, .null), (.istore_n 2, 1, 2, 0, .null), (.iconst 0, 1, 0, 0, .int 0), (.istore_n 3, 1, 3, 0, .null), (.iconst 0, 1, 0, 0, .int 0), (.istore 4, 2, 4, 0, .null)]) (L' := [some (.ref 93), some (.int x1), some (.int (11280 + (12 * x1))), some (.int 0), some (.int 0)]) (st' := []) (w' := w) (g := []) (K := []) (by decide +kernel) rfl rfl rfl rfl jk0 ?_
  refine ev_mask [true, true, true, true, true] ?_
  exact t_Model_judgedVisit_h14 hG jfu _ _ _ _ _ _ h
def f_Model_judgedQuestion_j70 (x2 : Int32) (x4 : Int32) (w : jW) : Option (Int32 × jW) :=
  if x2 ≤ x4 then
    some (3, w)
  else
    some (7, w)
set_option maxRecDepth 20000 in
theorem t_Model_judgedQuestion_j70 {l : Launch} {G : jG} (hG : jX G) {x2 : Int32} {x4 : Int32} {w : jW} {z : (Int32 × jW)} (h : f_Model_judgedQuestion_j70 x2 x4 w = some z) : Ev l G (jrm d_Model_judgedQuestion 0 0) y_Model_judgedQuestion (some (.int z.1), jR0, z.2) 0 0 0 0 70 [none, none, some (.int x2), none, some (.int x4)] [] jR0 w := by
  rw [f_Model_judgedQuestion_j70] at h
  refine ev_seg (o := 10) (nL := 5) (q := 73) (xs := [(.iload_n 2, 1, 2, 0, .null), (.iload 4, 2, 4, 0, .null)]) (L' := [none, none, some (.int x2), none, some (.int x4)]) (st' := [.int x4, .int x2]) (w' := w) (g := []) (K := []) (by decide +kernel) rfl rfl rfl rfl jk0 ?_
  refine ev_icmp_le (off := 8) (tgt := 81) (by decide +kernel) (by decide) (fun c4 => ?_) (fun c4 => ?_)
  · replace h := jpos c4 h
    refine ev_seg (o := 10) (nL := 5) (q := 82) (xs := [(.iconst 3, 1, 0, 0, .int 3)]) (L' := [none, none, some (.int x2), none, some (.int x4)]) (st' := [.int 3]) (w' := w) (g := []) (K := []) (by decide +kernel) rfl rfl rfl rfl jk0 ?_
    cases h
    exact ev_iret (by decide +kernel) rfl rfl rfl rfl
  · replace h := jneg c4 h
    refine ev_seg (o := 10) (nL := 5) (q := 82) (xs := [(.bipush 7, 2, 0, 0, .int 7), (.goto 4, 3, 0, 0, .null)]) (L' := [none, none, some (.int x2), none, some (.int x4)]) (st' := [.int 7]) (w' := w) (g := []) (K := []) (by decide +kernel) rfl rfl rfl rfl jk0 ?_
    cases h
    exact ev_iret (by decide +kernel) rfl rfl rfl rfl
def f_Model_judgedQuestion (x1 : Int32) (x2 : Int32) (w : jW) : Option (Int32 × jW) :=
  if jal [jin ((12880 + (4 * x1)) + 2) 21000, jin ((12880 + (4 * x1)) + 2) 21000] = true then
  Option.bind (f_Model_saysOf (w.1 94 (Int32.toNatClampNeg ((12880 + (4 * x1)) + 2))) 5 w) fun q2 =>
  if jal [jin ((12880 + (4 * x1)) + 3) 21000] = true then
  if (q2.2.1 94 (Int32.toNatClampNeg ((12880 + (4 * x1)) + 3))) < 0 then
    f_Model_judgedQuestion_j70 x2 ((w.1 94 (Int32.toNatClampNeg ((12880 + (4 * x1)) + 2))) + q2.1) q2.2
  else
    if jal [jin ((12880 + (4 * x1)) + 3) 21000] = true then
    if (q2.2.1 94 (Int32.toNatClampNeg ((12880 + (4 * x1)) + 3))) ≤ ((w.1 94 (Int32.toNatClampNeg ((12880 + (4 * x1)) + 2))) + q2.1) then
      if jal [jin ((12880 + (4 * x1)) + 3) 21000] = true then
      if (q2.2.1 94 (Int32.toNatClampNeg ((12880 + (4 * x1)) + 3))) ≤ x2 then
        some (0, q2.2)
      else
        f_Model_judgedQuestion_j70 x2 ((w.1 94 (Int32.toNatClampNeg ((12880 + (4 * x1)) + 2))) + q2.1) q2.2
      else none
    else
      f_Model_judgedQuestion_j70 x2 ((w.1 94 (Int32.toNatClampNeg ((12880 + (4 * x1)) + 2))) + q2.1) q2.2
    else none
  else none
  else none
set_option maxRecDepth 20000 in
theorem e_Model_judgedQuestion {l : Launch} {G : jG} (hG : jX G) {x1 : Int32} {x2 : Int32} {w : jW} {z : (Int32 × jW)} (h : f_Model_judgedQuestion x1 x2 w = some z) : Ct l G y_Model_judgedQuestion d_Model_judgedQuestion 0 0 [.ref 93, .int x1, .int x2] jR0 w (some (.int z.1), jR0, z.2) := by
  rw [f_Model_judgedQuestion] at h
  refine Ct.of (L := [some (.ref 93), some (.int x1), some (.int x2), none, none]) (by decide) (Nat.le_of_ble_eq_true rfl) rfl ?_
  obtain ⟨hg1, h⟩ := jgd h
  refine ev_seg (o := 10) (nL := 5) (q := 26) (xs := [(.sipush 12880, 3, 0, 0, .int 12880), (.iconst 4, 1, 0, 0, .int 4), (.iload_n 1, 1, 1, 0, .null), (.imul, 1, 0, 0, .null), (.iadd, 1, 0, 0, .null), (.istore_n 3, 1, 3, 0, .null), (.aload_n 0, 1, 0, 0, .null), (.getfield 7, 3, 10, 0, .ref 20), (.iload_n 3, 1, 3, 0, .null), (.iconst 2, 1, 0, 0, .int 2), (.iadd, 1, 0, 0, .null), (.iaload, 1, 0, 0, .null), (.aload_n 0, 1, 0, 0, .null), (.aload_n 0, 1, 0, 0, .null), (.getfield 7, 3, 10, 0, .ref 20), (.iload_n 3, 1, 3, 0, .null), (.iconst 2, 1, 0, 0, .int 2), (.iadd, 1, 0, 0, .null), (.iaload, 1, 0, 0, .null), (.iconst 5, 1, 0, 0, .int 5)]) (L' := [some (.ref 93), some (.int x1), some (.int x2), some (.int (12880 + (4 * x1))), none]) (st' := [.int 5, .int (w.1 94 (Int32.toNatClampNeg ((12880 + (4 * x1)) + 2))), .ref 93, .int (w.1 94 (Int32.toNatClampNeg ((12880 + (4 * x1)) + 2)))]) (w' := w) (g := [jin ((12880 + (4 * x1)) + 2) 21000, jin ((12880 + (4 * x1)) + 2) 21000]) (K := [(94, 20), (94, 20), (93, 10), (94, 20), (94, 20), (93, 10)]) (by decide +kernel) rfl rfl rfl hg1 (jk1 kz_94 (jk1 kz_94 (jk1 kz_93 (jk1 kz_94 (jk1 kz_94 (jk1 kz_93 jk0)))))) ?_
  obtain ⟨q2, hq2, h⟩ := jbe h
  refine ev_callV (ci := 10) (a := 93) (y2 := y_Model_saysOf) (o := 10) (idx := 81) (d2 := d_Model_saysOf) (n := 2) (mc2 := 0) (ms2 := 0) (As := [.int (w.1 94 (Int32.toNatClampNeg ((12880 + (4 * x1)) + 2))), .int 5]) (st := [.int (w.1 94 (Int32.toNatClampNeg ((12880 + (4 * x1)) + 2)))]) (res2 := (some (.int q2.1), jR0, q2.2)) (by decide +kernel) rfl lk_10_81 mo_Model_saysOf mv_Model_saysOf ⟨Nat.le_of_ble_eq_true rfl, Nat.le_of_ble_eq_true rfl⟩ rfl rfl kz_93 (by decide) rfl (Nat.le_of_ble_eq_true rfl) ⟨Nat.le_refl _, Nat.le_refl _⟩ hG (e_Model_saysOf hG hq2) ?_
  obtain ⟨hg3, h⟩ := jgd h
  refine ev_seg (o := 10) (nL := 5) (q := 40) (xs := [(.iadd, 1, 0, 0, .null), (.istore 4, 2, 4, 0, .null), (.aload_n 0, 1, 0, 0, .null), (.getfield 7, 3, 10, 0, .ref 20), (.iload_n 3, 1, 3, 0, .null), (.iconst 3, 1, 0, 0, .int 3), (.iadd, 1, 0, 0, .null), (.iaload, 1, 0, 0, .null)]) (L' := [some (.ref 93), some (.int x1), some (.int x2), some (.int (12880 + (4 * x1))), some (.int ((w.1 94 (Int32.toNatClampNeg ((12880 + (4 * x1)) + 2))) + q2.1))]) (st' := [.int (q2.2.1 94 (Int32.toNatClampNeg ((12880 + (4 * x1)) + 3)))]) (w' := q2.2) (g := [jin ((12880 + (4 * x1)) + 3) 21000]) (K := [(94, 20), (94, 20), (93, 10)]) (by decide +kernel) rfl rfl rfl hg3 (jk1 kz_94 (jk1 kz_94 (jk1 kz_93 jk0))) ?_
  refine ev_if_lt (off := 30) (tgt := 70) (by decide +kernel) (by decide) (fun c9 => ?_) (fun c9 => ?_)
  · replace h := jpos c9 h
    refine ev_mask [false, false, true, false, true] ?_
    exact t_Model_judgedQuestion_j70 hG h
  · replace h := jneg c9 h
    obtain ⟨hg5, h⟩ := jgd h
    refine ev_seg (o := 10) (nL := 5) (q := 53) (xs := [(.aload_n 0, 1, 0, 0, .null), (.getfield 7, 3, 10, 0, .ref 20), (.iload_n 3, 1, 3, 0, .null), (.iconst 3, 1, 0, 0, .int 3), (.iadd, 1, 0, 0, .null), (.iaload, 1, 0, 0, .null), (.iload 4, 2, 4, 0, .null)]) (L' := [some (.ref 93), some (.int x1), some (.int x2), some (.int (12880 + (4 * x1))), some (.int ((w.1 94 (Int32.toNatClampNeg ((12880 + (4 * x1)) + 2))) + q2.1))]) (st' := [.int ((w.1 94 (Int32.toNatClampNeg ((12880 + (4 * x1)) + 2))) + q2.1), .int (q2.2.1 94 (Int32.toNatClampNeg ((12880 + (4 * x1)) + 3)))]) (w' := q2.2) (g := [jin ((12880 + (4 * x1)) + 3) 21000]) (K := [(94, 20), (94, 20), (93, 10)]) (by decide +kernel) rfl rfl rfl hg5 (jk1 kz_94 (jk1 kz_94 (jk1 kz_93 jk0))) ?_
    refine ev_icmp_gt (off := 17) (tgt := 70) (by decide +kernel) (by decide) (fun c8 => ?_) (fun c8 => ?_)
    · replace h := jneg c8 h
      refine ev_mask [false, false, true, false, true] ?_
      exact t_Model_judgedQuestion_j70 hG h
    · replace h := jpos c8 h
      obtain ⟨hg6, h⟩ := jgd h
      refine ev_seg (o := 10) (nL := 5) (q := 65) (xs := [(.aload_n 0, 1, 0, 0, .null), (.getfield 7, 3, 10, 0, .ref 20), (.iload_n 3, 1, 3, 0, .null), (.iconst 3, 1, 0, 0, .int 3), (.iadd, 1, 0, 0, .null), (.iaload, 1, 0, 0, .null), (.iload_n 2, 1, 2, 0, .null)]) (L' := [some (.ref 93), some (.int x1), some (.int x2), some (.int (12880 + (4 * x1))), some (.int ((w.1 94 (Int32.toNatClampNeg ((12880 + (4 * x1)) + 2))) + q2.1))]) (st' := [.int x2, .int (q2.2.1 94 (Int32.toNatClampNeg ((12880 + (4 * x1)) + 3)))]) (w' := q2.2) (g := [jin ((12880 + (4 * x1)) + 3) 21000]) (K := [(94, 20), (94, 20), (93, 10)]) (by decide +kernel) rfl rfl rfl hg6 (jk1 kz_94 (jk1 kz_94 (jk1 kz_93 jk0))) ?_
      refine ev_icmp_gt (off := 5) (tgt := 70) (by decide +kernel) (by decide) (fun c7 => ?_) (fun c7 => ?_)
      · replace h := jneg c7 h
        refine ev_mask [false, false, true, false, true] ?_
        exact t_Model_judgedQuestion_j70 hG h
      · replace h := jpos c7 h
        refine ev_seg (o := 10) (nL := 5) (q := 69) (xs := [(.iconst 0, 1, 0, 0, .int 0)]) (L' := [some (.ref 93), some (.int x1), some (.int x2), some (.int (12880 + (4 * x1))), some (.int ((w.1 94 (Int32.toNatClampNeg ((12880 + (4 * x1)) + 2))) + q2.1))]) (st' := [.int 0]) (w' := q2.2) (g := []) (K := []) (by decide +kernel) rfl rfl rfl rfl jk0 ?_
        cases h
        exact ev_iret (by decide +kernel) rfl rfl rfl rfl
def f_Model_judgedOf (x1 : Int32) (x2 : Int32) (w : jW) : Option (Int32 × jW) :=
  if jal [jin (13080 + (8 * x1)) 21000, jin ((13080 + (8 * x1)) + 3) 21000, jin ((13080 + (8 * x1)) + 1) 21000] = true then
  if (w.1 94 (Int32.toNatClampNeg (13080 + (8 * x1)))) = 0 then
    if jal [jin ((13080 + (8 * x1)) + 2) 21000] = true then
    Option.bind (f_Model_countedOf (w.1 94 (Int32.toNatClampNeg ((13080 + (8 * x1)) + 2))) (w.1 94 (Int32.toNatClampNeg ((13080 + (8 * x1)) + 1))) w) fun q4 =>
    Option.bind (f_Model_limitOf (w.1 94 (Int32.toNatClampNeg ((13080 + (8 * x1)) + 1))) q4.2) fun q5 =>
    if q4.1 ≤ q5.1 then
      some (0, q5.2)
    else
      some (1, q5.2)
    else none
  else
  if (w.1 94 (Int32.toNatClampNeg (13080 + (8 * x1)))) = 1 then
    if jal [jin ((13080 + (8 * x1)) + 2) 21000] = true then
    Option.bind (f_Model_countedOf (w.1 94 (Int32.toNatClampNeg ((13080 + (8 * x1)) + 2))) (w.1 94 (Int32.toNatClampNeg ((13080 + (8 * x1)) + 1))) w) fun q9 =>
    Option.bind (f_Model_limitOf (w.1 94 (Int32.toNatClampNeg ((13080 + (8 * x1)) + 1))) q9.2) fun q10 =>
    if q9.1 ≤ q10.1 then
      Option.bind (f_Model_judgedMove (w.1 94 (Int32.toNatClampNeg ((13080 + (8 * x1)) + 3))) x2 q10.2) fun q11 =>
      some (q11.1, q11.2)
    else
      some (1, q10.2)
    else none
  else
  if (w.1 94 (Int32.toNatClampNeg (13080 + (8 * x1)))) = 2 then
    if jal [jin ((13080 + (8 * x1)) + 4) 21000] = true then
    if (w.1 94 (Int32.toNatClampNeg ((13080 + (8 * x1)) + 4))) < 0 then
      some (0, w)
    else
      if jal [jin ((13080 + (8 * x1)) + 4) 21000] = true then
      Option.bind (f_Model_saysOf (w.1 94 (Int32.toNatClampNeg ((13080 + (8 * x1)) + 1))) 4 w) fun q16 =>
      if ((w.1 94 (Int32.toNatClampNeg ((13080 + (8 * x1)) + 1))) - (w.1 94 (Int32.toNatClampNeg ((13080 + (8 * x1)) + 4)))) < q16.1 then
        some (4, q16.2)
      else
        some (0, q16.2)
      else none
    else none
  else
  if (w.1 94 (Int32.toNatClampNeg (13080 + (8 * x1)))) = 3 then
    if jal [jin ((9680 + (8 * (w.1 94 (Int32.toNatClampNeg ((13080 + (8 * x1)) + 3))))) + 2) 21000, jin (9680 + (8 * (w.1 94 (Int32.toNatClampNeg ((13080 + (8 * x1)) + 3))))) 21000] = true then
    Option.bind (f_Model_whereOf (w.1 94 (Int32.toNatClampNeg (9680 + (8 * (w.1 94 (Int32.toNatClampNeg ((13080 + (8 * x1)) + 3))))))) (w.1 94 (Int32.toNatClampNeg ((9680 + (8 * (w.1 94 (Int32.toNatClampNeg ((13080 + (8 * x1)) + 3))))) + 2))) w) fun q21 =>
    if jal [jin ((9680 + (8 * (w.1 94 (Int32.toNatClampNeg ((13080 + (8 * x1)) + 3))))) + 1) 21000] = true then
    if q21.1 = (q21.2.1 94 (Int32.toNatClampNeg ((9680 + (8 * (w.1 94 (Int32.toNatClampNeg ((13080 + (8 * x1)) + 3))))) + 1))) then
      some (0, q21.2)
    else
      some (5, q21.2)
    else none
    else none
  else
  if (w.1 94 (Int32.toNatClampNeg (13080 + (8 * x1)))) = 4 then
    Option.bind (f_Model_judgedVisit (w.1 94 (Int32.toNatClampNeg ((13080 + (8 * x1)) + 3))) w) fun q25 =>
    some (q25.1, q25.2)
  else
  if (w.1 94 (Int32.toNatClampNeg (13080 + (8 * x1)))) = 5 then
    Option.bind (f_Model_judgedQuestion (w.1 94 (Int32.toNatClampNeg ((13080 + (8 * x1)) + 3))) x2 w) fun q27 =>
    some (q27.1, q27.2)
  else
    some (0, w)
  else none
set_option maxRecDepth 20000 in
theorem e_Model_judgedOf {l : Launch} {G : jG} (hG : jX G) {x1 : Int32} {x2 : Int32} {w : jW} {z : (Int32 × jW)} (h : f_Model_judgedOf x1 x2 w = some z) : Ct l G y_Model_judgedOf d_Model_judgedOf 0 0 [.ref 93, .int x1, .int x2] jR0 w (some (.int z.1), jR0, z.2) := by
  rw [f_Model_judgedOf] at h
  refine Ct.of (L := [some (.ref 93), some (.int x1), some (.int x2), none, none, none]) (by decide) (Nat.le_of_ble_eq_true rfl) rfl ?_
  obtain ⟨hg1, h⟩ := jgd h
  refine ev_seg (o := 10) (nL := 6) (q := 35) (xs := [(.sipush 13080, 3, 0, 0, .int 13080), (.bipush 8, 2, 0, 0, .int 8), (.iload_n 1, 1, 1, 0, .null), (.imul, 1, 0, 0, .null), (.iadd, 1, 0, 0, .null), (.istore_n 3, 1, 3, 0, .null), (.aload_n 0, 1, 0, 0, .null), (.getfield 7, 3, 10, 0, .ref 20), (.iload_n 3, 1, 3, 0, .null), (.iconst 1, 1, 0, 0, .int 1), (.iadd, 1, 0, 0, .null), (.iaload, 1, 0, 0, .null), (.istore 4, 2, 4, 0, .null), (.aload_n 0, 1, 0, 0, .null), (.getfield 7, 3, 10, 0, .ref 20), (.iload_n 3, 1, 3, 0, .null), (.iconst 3, 1, 0, 0, .int 3), (.iadd, 1, 0, 0, .null), (.iaload, 1, 0, 0, .null), (.istore 5, 2, 5, 0, .null), (.aload_n 0, 1, 0, 0, .null), (.getfield 7, 3, 10, 0, .ref 20), (.iload_n 3, 1, 3, 0, .null), (.iaload, 1, 0, 0, .null)]) (L' := [some (.ref 93), some (.int x1), some (.int x2), some (.int (13080 + (8 * x1))), some (.int (w.1 94 (Int32.toNatClampNeg ((13080 + (8 * x1)) + 1)))), some (.int (w.1 94 (Int32.toNatClampNeg ((13080 + (8 * x1)) + 3))))]) (st' := [.int (w.1 94 (Int32.toNatClampNeg (13080 + (8 * x1))))]) (w' := w) (g := [jin (13080 + (8 * x1)) 21000, jin ((13080 + (8 * x1)) + 3) 21000, jin ((13080 + (8 * x1)) + 1) 21000]) (K := [(94, 20), (94, 20), (93, 10), (94, 20), (94, 20), (93, 10), (94, 20), (94, 20), (93, 10)]) (by decide +kernel) rfl rfl rfl hg1 (jk1 kz_94 (jk1 kz_94 (jk1 kz_93 (jk1 kz_94 (jk1 kz_94 (jk1 kz_93 (jk1 kz_94 (jk1 kz_94 (jk1 kz_93 jk0))))))))) ?_
  by_cases c2 : (w.1 94 (Int32.toNatClampNeg (13080 + (8 * x1)))) = 0
  · replace h := jpos c2 h
    refine ev_tableIn (dflt := 213) (lo := 0) (hi := 5) (offs := #[37, 66, 101, 139, 198, 205]) (len := 37) (off := 37) (tgt := 72) (by decide +kernel) (by rw [c2]; decide) (by rw [c2]; decide) (by rw [c2]; decide) (by decide) ?_
    obtain ⟨hg3, h⟩ := jgd h
    refine ev_seg (o := 10) (nL := 6) (q := 83) (xs := [(.aload_n 0, 1, 0, 0, .null), (.aload_n 0, 1, 0, 0, .null), (.getfield 7, 3, 10, 0, .ref 20), (.iload_n 3, 1, 3, 0, .null), (.iconst 2, 1, 0, 0, .int 2), (.iadd, 1, 0, 0, .null), (.iaload, 1, 0, 0, .null), (.iload 4, 2, 4, 0, .null)]) (L' := [some (.ref 93), some (.int x1), some (.int x2), some (.int (13080 + (8 * x1))), some (.int (w.1 94 (Int32.toNatClampNeg ((13080 + (8 * x1)) + 1)))), some (.int (w.1 94 (Int32.toNatClampNeg ((13080 + (8 * x1)) + 3))))]) (st' := [.int (w.1 94 (Int32.toNatClampNeg ((13080 + (8 * x1)) + 1))), .int (w.1 94 (Int32.toNatClampNeg ((13080 + (8 * x1)) + 2))), .ref 93]) (w' := w) (g := [jin ((13080 + (8 * x1)) + 2) 21000]) (K := [(94, 20), (94, 20), (93, 10)]) (by decide +kernel) rfl rfl rfl hg3 (jk1 kz_94 (jk1 kz_94 (jk1 kz_93 jk0))) ?_
    obtain ⟨q4, hq4, h⟩ := jbe h
    refine ev_callV (ci := 10) (a := 93) (y2 := y_Model_countedOf) (o := 10) (idx := 265) (d2 := d_Model_countedOf) (n := 2) (mc2 := 0) (ms2 := 0) (As := [.int (w.1 94 (Int32.toNatClampNeg ((13080 + (8 * x1)) + 2))), .int (w.1 94 (Int32.toNatClampNeg ((13080 + (8 * x1)) + 1)))]) (st := []) (res2 := (some (.int q4.1), jR0, q4.2)) (by decide +kernel) rfl lk_10_265 mo_Model_countedOf mv_Model_countedOf ⟨Nat.le_of_ble_eq_true rfl, Nat.le_of_ble_eq_true rfl⟩ rfl rfl kz_93 (by decide) rfl (Nat.le_of_ble_eq_true rfl) ⟨Nat.le_refl _, Nat.le_refl _⟩ hG (e_Model_countedOf hG hq4) ?_
    refine ev_seg (o := 10) (nL := 6) (q := 89) (xs := [(.aload_n 0, 1, 0, 0, .null), (.iload 4, 2, 4, 0, .null)]) (L' := [some (.ref 93), some (.int x1), some (.int x2), some (.int (13080 + (8 * x1))), some (.int (w.1 94 (Int32.toNatClampNeg ((13080 + (8 * x1)) + 1)))), some (.int (w.1 94 (Int32.toNatClampNeg ((13080 + (8 * x1)) + 3))))]) (st' := [.int (w.1 94 (Int32.toNatClampNeg ((13080 + (8 * x1)) + 1))), .ref 93, .int q4.1]) (w' := q4.2) (g := []) (K := []) (by decide +kernel) rfl rfl rfl rfl jk0 ?_
    obtain ⟨q5, hq5, h⟩ := jbe h
    refine ev_callV (ci := 10) (a := 93) (y2 := y_Model_limitOf) (o := 10) (idx := 241) (d2 := d_Model_limitOf) (n := 1) (mc2 := 0) (ms2 := 0) (As := [.int (w.1 94 (Int32.toNatClampNeg ((13080 + (8 * x1)) + 1)))]) (st := [.int q4.1]) (res2 := (some (.int q5.1), jR0, q5.2)) (by decide +kernel) rfl lk_10_241 mo_Model_limitOf mv_Model_limitOf ⟨Nat.le_of_ble_eq_true rfl, Nat.le_of_ble_eq_true rfl⟩ rfl rfl kz_93 (by decide) rfl (Nat.le_of_ble_eq_true rfl) ⟨Nat.le_refl _, Nat.le_refl _⟩ hG (e_Model_limitOf hG hq5) ?_
    refine ev_icmp_le (off := 7) (tgt := 99) (by decide +kernel) (by decide) (fun c6 => ?_) (fun c6 => ?_)
    · replace h := jpos c6 h
      refine ev_seg (o := 10) (nL := 6) (q := 100) (xs := [(.iconst 0, 1, 0, 0, .int 0)]) (L' := [some (.ref 93), some (.int x1), some (.int x2), some (.int (13080 + (8 * x1))), some (.int (w.1 94 (Int32.toNatClampNeg ((13080 + (8 * x1)) + 1)))), some (.int (w.1 94 (Int32.toNatClampNeg ((13080 + (8 * x1)) + 3))))]) (st' := [.int 0]) (w' := q5.2) (g := []) (K := []) (by decide +kernel) rfl rfl rfl rfl jk0 ?_
      cases h
      exact ev_iret (by decide +kernel) rfl rfl rfl rfl
    · replace h := jneg c6 h
      refine ev_seg (o := 10) (nL := 6) (q := 100) (xs := [(.iconst 1, 1, 0, 0, .int 1), (.goto 4, 3, 0, 0, .null)]) (L' := [some (.ref 93), some (.int x1), some (.int x2), some (.int (13080 + (8 * x1))), some (.int (w.1 94 (Int32.toNatClampNeg ((13080 + (8 * x1)) + 1)))), some (.int (w.1 94 (Int32.toNatClampNeg ((13080 + (8 * x1)) + 3))))]) (st' := [.int 1]) (w' := q5.2) (g := []) (K := []) (by decide +kernel) rfl rfl rfl rfl jk0 ?_
      cases h
      exact ev_iret (by decide +kernel) rfl rfl rfl rfl
  · replace h := jneg c2 h
    by_cases c7 : (w.1 94 (Int32.toNatClampNeg (13080 + (8 * x1)))) = 1
    · replace h := jpos c7 h
      refine ev_tableIn (dflt := 213) (lo := 0) (hi := 5) (offs := #[37, 66, 101, 139, 198, 205]) (len := 37) (off := 66) (tgt := 101) (by decide +kernel) (by rw [c7]; decide) (by rw [c7]; decide) (by rw [c7]; decide) (by decide) ?_
      obtain ⟨hg8, h⟩ := jgd h
      refine ev_seg (o := 10) (nL := 6) (q := 112) (xs := [(.aload_n 0, 1, 0, 0, .null), (.aload_n 0, 1, 0, 0, .null), (.getfield 7, 3, 10, 0, .ref 20), (.iload_n 3, 1, 3, 0, .null), (.iconst 2, 1, 0, 0, .int 2), (.iadd, 1, 0, 0, .null), (.iaload, 1, 0, 0, .null), (.iload 4, 2, 4, 0, .null)]) (L' := [some (.ref 93), some (.int x1), some (.int x2), some (.int (13080 + (8 * x1))), some (.int (w.1 94 (Int32.toNatClampNeg ((13080 + (8 * x1)) + 1)))), some (.int (w.1 94 (Int32.toNatClampNeg ((13080 + (8 * x1)) + 3))))]) (st' := [.int (w.1 94 (Int32.toNatClampNeg ((13080 + (8 * x1)) + 1))), .int (w.1 94 (Int32.toNatClampNeg ((13080 + (8 * x1)) + 2))), .ref 93]) (w' := w) (g := [jin ((13080 + (8 * x1)) + 2) 21000]) (K := [(94, 20), (94, 20), (93, 10)]) (by decide +kernel) rfl rfl rfl hg8 (jk1 kz_94 (jk1 kz_94 (jk1 kz_93 jk0))) ?_
      obtain ⟨q9, hq9, h⟩ := jbe h
      refine ev_callV (ci := 10) (a := 93) (y2 := y_Model_countedOf) (o := 10) (idx := 265) (d2 := d_Model_countedOf) (n := 2) (mc2 := 0) (ms2 := 0) (As := [.int (w.1 94 (Int32.toNatClampNeg ((13080 + (8 * x1)) + 2))), .int (w.1 94 (Int32.toNatClampNeg ((13080 + (8 * x1)) + 1)))]) (st := []) (res2 := (some (.int q9.1), jR0, q9.2)) (by decide +kernel) rfl lk_10_265 mo_Model_countedOf mv_Model_countedOf ⟨Nat.le_of_ble_eq_true rfl, Nat.le_of_ble_eq_true rfl⟩ rfl rfl kz_93 (by decide) rfl (Nat.le_of_ble_eq_true rfl) ⟨Nat.le_refl _, Nat.le_refl _⟩ hG (e_Model_countedOf hG hq9) ?_
      refine ev_seg (o := 10) (nL := 6) (q := 118) (xs := [(.aload_n 0, 1, 0, 0, .null), (.iload 4, 2, 4, 0, .null)]) (L' := [some (.ref 93), some (.int x1), some (.int x2), some (.int (13080 + (8 * x1))), some (.int (w.1 94 (Int32.toNatClampNeg ((13080 + (8 * x1)) + 1)))), some (.int (w.1 94 (Int32.toNatClampNeg ((13080 + (8 * x1)) + 3))))]) (st' := [.int (w.1 94 (Int32.toNatClampNeg ((13080 + (8 * x1)) + 1))), .ref 93, .int q9.1]) (w' := q9.2) (g := []) (K := []) (by decide +kernel) rfl rfl rfl rfl jk0 ?_
      obtain ⟨q10, hq10, h⟩ := jbe h
      refine ev_callV (ci := 10) (a := 93) (y2 := y_Model_limitOf) (o := 10) (idx := 241) (d2 := d_Model_limitOf) (n := 1) (mc2 := 0) (ms2 := 0) (As := [.int (w.1 94 (Int32.toNatClampNeg ((13080 + (8 * x1)) + 1)))]) (st := [.int q9.1]) (res2 := (some (.int q10.1), jR0, q10.2)) (by decide +kernel) rfl lk_10_241 mo_Model_limitOf mv_Model_limitOf ⟨Nat.le_of_ble_eq_true rfl, Nat.le_of_ble_eq_true rfl⟩ rfl rfl kz_93 (by decide) rfl (Nat.le_of_ble_eq_true rfl) ⟨Nat.le_refl _, Nat.le_refl _⟩ hG (e_Model_limitOf hG hq10) ?_
      refine ev_icmp_le (off := 7) (tgt := 128) (by decide +kernel) (by decide) (fun c12 => ?_) (fun c12 => ?_)
      · replace h := jpos c12 h
        refine ev_seg (o := 10) (nL := 6) (q := 132) (xs := [(.aload_n 0, 1, 0, 0, .null), (.iload 5, 2, 5, 0, .null), (.iload_n 2, 1, 2, 0, .null)]) (L' := [some (.ref 93), some (.int x1), some (.int x2), some (.int (13080 + (8 * x1))), some (.int (w.1 94 (Int32.toNatClampNeg ((13080 + (8 * x1)) + 1)))), some (.int (w.1 94 (Int32.toNatClampNeg ((13080 + (8 * x1)) + 3))))]) (st' := [.int x2, .int (w.1 94 (Int32.toNatClampNeg ((13080 + (8 * x1)) + 3))), .ref 93]) (w' := q10.2) (g := []) (K := []) (by decide +kernel) rfl rfl rfl rfl jk0 ?_
        obtain ⟨q11, hq11, h⟩ := jbe h
        refine ev_callV (ci := 10) (a := 93) (y2 := y_Model_judgedMove) (o := 10) (idx := 310) (d2 := d_Model_judgedMove) (n := 2) (mc2 := 0) (ms2 := 0) (As := [.int (w.1 94 (Int32.toNatClampNeg ((13080 + (8 * x1)) + 3))), .int x2]) (st := []) (res2 := (some (.int q11.1), jR0, q11.2)) (by decide +kernel) rfl lk_10_310 mo_Model_judgedMove mv_Model_judgedMove ⟨Nat.le_of_ble_eq_true rfl, Nat.le_of_ble_eq_true rfl⟩ rfl rfl kz_93 (by decide) rfl (Nat.le_of_ble_eq_true rfl) ⟨Nat.le_refl _, Nat.le_refl _⟩ hG (e_Model_judgedMove hG hq11) ?_
        cases h
        exact ev_iret (by decide +kernel) rfl rfl rfl rfl
      · replace h := jneg c12 h
        refine ev_seg (o := 10) (nL := 6) (q := 135) (xs := [(.iconst 1, 1, 0, 0, .int 1), (.goto 10, 3, 0, 0, .null)]) (L' := [some (.ref 93), some (.int x1), some (.int x2), some (.int (13080 + (8 * x1))), some (.int (w.1 94 (Int32.toNatClampNeg ((13080 + (8 * x1)) + 1)))), some (.int (w.1 94 (Int32.toNatClampNeg ((13080 + (8 * x1)) + 3))))]) (st' := [.int 1]) (w' := q10.2) (g := []) (K := []) (by decide +kernel) rfl rfl rfl rfl jk0 ?_
        cases h
        exact ev_iret (by decide +kernel) rfl rfl rfl rfl
    · replace h := jneg c7 h
      by_cases c13 : (w.1 94 (Int32.toNatClampNeg (13080 + (8 * x1)))) = 2
      · replace h := jpos c13 h
        refine ev_tableIn (dflt := 213) (lo := 0) (hi := 5) (offs := #[37, 66, 101, 139, 198, 205]) (len := 37) (off := 101) (tgt := 136) (by decide +kernel) (by rw [c13]; decide) (by rw [c13]; decide) (by rw [c13]; decide) (by decide) ?_
        obtain ⟨hg14, h⟩ := jgd h
        refine ev_seg (o := 10) (nL := 6) (q := 144) (xs := [(.aload_n 0, 1, 0, 0, .null), (.getfield 7, 3, 10, 0, .ref 20), (.iload_n 3, 1, 3, 0, .null), (.iconst 4, 1, 0, 0, .int 4), (.iadd, 1, 0, 0, .null), (.iaload, 1, 0, 0, .null)]) (L' := [some (.ref 93), some (.int x1), some (.int x2), some (.int (13080 + (8 * x1))), some (.int (w.1 94 (Int32.toNatClampNeg ((13080 + (8 * x1)) + 1)))), some (.int (w.1 94 (Int32.toNatClampNeg ((13080 + (8 * x1)) + 3))))]) (st' := [.int (w.1 94 (Int32.toNatClampNeg ((13080 + (8 * x1)) + 4)))]) (w' := w) (g := [jin ((13080 + (8 * x1)) + 4) 21000]) (K := [(94, 20), (94, 20), (93, 10)]) (by decide +kernel) rfl rfl rfl hg14 (jk1 kz_94 (jk1 kz_94 (jk1 kz_93 jk0))) ?_
        refine ev_if_lt (off := 28) (tgt := 172) (by decide +kernel) (by decide) (fun c18 => ?_) (fun c18 => ?_)
        · replace h := jpos c18 h
          refine ev_seg (o := 10) (nL := 6) (q := 173) (xs := [(.iconst 0, 1, 0, 0, .int 0)]) (L' := [some (.ref 93), some (.int x1), some (.int x2), some (.int (13080 + (8 * x1))), some (.int (w.1 94 (Int32.toNatClampNeg ((13080 + (8 * x1)) + 1)))), some (.int (w.1 94 (Int32.toNatClampNeg ((13080 + (8 * x1)) + 3))))]) (st' := [.int 0]) (w' := w) (g := []) (K := []) (by decide +kernel) rfl rfl rfl rfl jk0 ?_
          cases h
          exact ev_iret (by decide +kernel) rfl rfl rfl rfl
        · replace h := jneg c18 h
          obtain ⟨hg15, h⟩ := jgd h
          refine ev_seg (o := 10) (nL := 6) (q := 162) (xs := [(.iload 4, 2, 4, 0, .null), (.aload_n 0, 1, 0, 0, .null), (.getfield 7, 3, 10, 0, .ref 20), (.iload_n 3, 1, 3, 0, .null), (.iconst 4, 1, 0, 0, .int 4), (.iadd, 1, 0, 0, .null), (.iaload, 1, 0, 0, .null), (.isub, 1, 0, 0, .null), (.aload_n 0, 1, 0, 0, .null), (.iload 4, 2, 4, 0, .null), (.iconst 4, 1, 0, 0, .int 4)]) (L' := [some (.ref 93), some (.int x1), some (.int x2), some (.int (13080 + (8 * x1))), some (.int (w.1 94 (Int32.toNatClampNeg ((13080 + (8 * x1)) + 1)))), some (.int (w.1 94 (Int32.toNatClampNeg ((13080 + (8 * x1)) + 3))))]) (st' := [.int 4, .int (w.1 94 (Int32.toNatClampNeg ((13080 + (8 * x1)) + 1))), .ref 93, .int ((w.1 94 (Int32.toNatClampNeg ((13080 + (8 * x1)) + 1))) - (w.1 94 (Int32.toNatClampNeg ((13080 + (8 * x1)) + 4))))]) (w' := w) (g := [jin ((13080 + (8 * x1)) + 4) 21000]) (K := [(94, 20), (94, 20), (93, 10)]) (by decide +kernel) rfl rfl rfl hg15 (jk1 kz_94 (jk1 kz_94 (jk1 kz_93 jk0))) ?_
          obtain ⟨q16, hq16, h⟩ := jbe h
          refine ev_callV (ci := 10) (a := 93) (y2 := y_Model_saysOf) (o := 10) (idx := 81) (d2 := d_Model_saysOf) (n := 2) (mc2 := 0) (ms2 := 0) (As := [.int (w.1 94 (Int32.toNatClampNeg ((13080 + (8 * x1)) + 1))), .int 4]) (st := [.int ((w.1 94 (Int32.toNatClampNeg ((13080 + (8 * x1)) + 1))) - (w.1 94 (Int32.toNatClampNeg ((13080 + (8 * x1)) + 4))))]) (res2 := (some (.int q16.1), jR0, q16.2)) (by decide +kernel) rfl lk_10_81 mo_Model_saysOf mv_Model_saysOf ⟨Nat.le_of_ble_eq_true rfl, Nat.le_of_ble_eq_true rfl⟩ rfl rfl kz_93 (by decide) rfl (Nat.le_of_ble_eq_true rfl) ⟨Nat.le_refl _, Nat.le_refl _⟩ hG (e_Model_saysOf hG hq16) ?_
          refine ev_icmp_ge (off := 7) (tgt := 172) (by decide +kernel) (by decide) (fun c17 => ?_) (fun c17 => ?_)
          · replace h := jneg c17 h
            refine ev_seg (o := 10) (nL := 6) (q := 173) (xs := [(.iconst 0, 1, 0, 0, .int 0)]) (L' := [some (.ref 93), some (.int x1), some (.int x2), some (.int (13080 + (8 * x1))), some (.int (w.1 94 (Int32.toNatClampNeg ((13080 + (8 * x1)) + 1)))), some (.int (w.1 94 (Int32.toNatClampNeg ((13080 + (8 * x1)) + 3))))]) (st' := [.int 0]) (w' := q16.2) (g := []) (K := []) (by decide +kernel) rfl rfl rfl rfl jk0 ?_
            cases h
            exact ev_iret (by decide +kernel) rfl rfl rfl rfl
          · replace h := jpos c17 h
            refine ev_seg (o := 10) (nL := 6) (q := 173) (xs := [(.iconst 4, 1, 0, 0, .int 4), (.goto 4, 3, 0, 0, .null)]) (L' := [some (.ref 93), some (.int x1), some (.int x2), some (.int (13080 + (8 * x1))), some (.int (w.1 94 (Int32.toNatClampNeg ((13080 + (8 * x1)) + 1)))), some (.int (w.1 94 (Int32.toNatClampNeg ((13080 + (8 * x1)) + 3))))]) (st' := [.int 4]) (w' := q16.2) (g := []) (K := []) (by decide +kernel) rfl rfl rfl rfl jk0 ?_
            cases h
            exact ev_iret (by decide +kernel) rfl rfl rfl rfl
      · replace h := jneg c13 h
        by_cases c19 : (w.1 94 (Int32.toNatClampNeg (13080 + (8 * x1)))) = 3
        · replace h := jpos c19 h
          refine ev_tableIn (dflt := 213) (lo := 0) (hi := 5) (offs := #[37, 66, 101, 139, 198, 205]) (len := 37) (off := 139) (tgt := 174) (by decide +kernel) (by rw [c19]; decide) (by rw [c19]; decide) (by rw [c19]; decide) (by decide) ?_
          obtain ⟨hg20, h⟩ := jgd h
          refine ev_seg (o := 10) (nL := 6) (q := 205) (xs := [(.aload_n 0, 1, 0, 0, .null), (.aload_n 0, 1, 0, 0, .null), (.getfield 7, 3, 10, 0, .ref 20), (.sipush 9680, 3, 0, 0, .int 9680), (.bipush 8, 2, 0, 0, .int 8), (.iload 5, 2, 5, 0, .null), (.imul, 1, 0, 0, .null), (.iadd, 1, 0, 0, .null), (.iaload, 1, 0, 0, .null), (.aload_n 0, 1, 0, 0, .null), (.getfield 7, 3, 10, 0, .ref 20), (.sipush 9680, 3, 0, 0, .int 9680), (.bipush 8, 2, 0, 0, .int 8), (.iload 5, 2, 5, 0, .null), (.imul, 1, 0, 0, .null), (.iadd, 1, 0, 0, .null), (.iconst 2, 1, 0, 0, .int 2), (.iadd, 1, 0, 0, .null), (.iaload, 1, 0, 0, .null)]) (L' := [some (.ref 93), some (.int x1), some (.int x2), some (.int (13080 + (8 * x1))), some (.int (w.1 94 (Int32.toNatClampNeg ((13080 + (8 * x1)) + 1)))), some (.int (w.1 94 (Int32.toNatClampNeg ((13080 + (8 * x1)) + 3))))]) (st' := [.int (w.1 94 (Int32.toNatClampNeg ((9680 + (8 * (w.1 94 (Int32.toNatClampNeg ((13080 + (8 * x1)) + 3))))) + 2))), .int (w.1 94 (Int32.toNatClampNeg (9680 + (8 * (w.1 94 (Int32.toNatClampNeg ((13080 + (8 * x1)) + 3))))))), .ref 93]) (w' := w) (g := [jin ((9680 + (8 * (w.1 94 (Int32.toNatClampNeg ((13080 + (8 * x1)) + 3))))) + 2) 21000, jin (9680 + (8 * (w.1 94 (Int32.toNatClampNeg ((13080 + (8 * x1)) + 3))))) 21000]) (K := [(94, 20), (94, 20), (93, 10), (94, 20), (94, 20), (93, 10)]) (by decide +kernel) rfl rfl rfl hg20 (jk1 kz_94 (jk1 kz_94 (jk1 kz_93 (jk1 kz_94 (jk1 kz_94 (jk1 kz_93 jk0)))))) ?_
          obtain ⟨q21, hq21, h⟩ := jbe h
          refine ev_callV (ci := 10) (a := 93) (y2 := y_Model_whereOf) (o := 10) (idx := 78) (d2 := d_Model_whereOf) (n := 2) (mc2 := 0) (ms2 := 0) (As := [.int (w.1 94 (Int32.toNatClampNeg (9680 + (8 * (w.1 94 (Int32.toNatClampNeg ((13080 + (8 * x1)) + 3))))))), .int (w.1 94 (Int32.toNatClampNeg ((9680 + (8 * (w.1 94 (Int32.toNatClampNeg ((13080 + (8 * x1)) + 3))))) + 2)))]) (st := []) (res2 := (some (.int q21.1), jR0, q21.2)) (by decide +kernel) rfl lk_10_78 mo_Model_whereOf mv_Model_whereOf ⟨Nat.le_of_ble_eq_true rfl, Nat.le_of_ble_eq_true rfl⟩ rfl rfl kz_93 (by decide) rfl (Nat.le_of_ble_eq_true rfl) ⟨Nat.le_refl _, Nat.le_refl _⟩ hG (e_Model_whereOf hG hq21) ?_
          obtain ⟨hg22, h⟩ := jgd h
          refine ev_seg (o := 10) (nL := 6) (q := 224) (xs := [(.aload_n 0, 1, 0, 0, .null), (.getfield 7, 3, 10, 0, .ref 20), (.sipush 9680, 3, 0, 0, .int 9680), (.bipush 8, 2, 0, 0, .int 8), (.iload 5, 2, 5, 0, .null), (.imul, 1, 0, 0, .null), (.iadd, 1, 0, 0, .null), (.iconst 1, 1, 0, 0, .int 1), (.iadd, 1, 0, 0, .null), (.iaload, 1, 0, 0, .null)]) (L' := [some (.ref 93), some (.int x1), some (.int x2), some (.int (13080 + (8 * x1))), some (.int (w.1 94 (Int32.toNatClampNeg ((13080 + (8 * x1)) + 1)))), some (.int (w.1 94 (Int32.toNatClampNeg ((13080 + (8 * x1)) + 3))))]) (st' := [.int (q21.2.1 94 (Int32.toNatClampNeg ((9680 + (8 * (w.1 94 (Int32.toNatClampNeg ((13080 + (8 * x1)) + 3))))) + 1))), .int q21.1]) (w' := q21.2) (g := [jin ((9680 + (8 * (w.1 94 (Int32.toNatClampNeg ((13080 + (8 * x1)) + 3))))) + 1) 21000]) (K := [(94, 20), (94, 20), (93, 10)]) (by decide +kernel) rfl rfl rfl hg22 (jk1 kz_94 (jk1 kz_94 (jk1 kz_93 jk0))) ?_
          refine ev_icmp_eq (off := 7) (tgt := 231) (by decide +kernel) (by decide) (fun c23 => ?_) (fun c23 => ?_)
          · replace h := jpos c23 h
            refine ev_seg (o := 10) (nL := 6) (q := 232) (xs := [(.iconst 0, 1, 0, 0, .int 0)]) (L' := [some (.ref 93), some (.int x1), some (.int x2), some (.int (13080 + (8 * x1))), some (.int (w.1 94 (Int32.toNatClampNeg ((13080 + (8 * x1)) + 1)))), some (.int (w.1 94 (Int32.toNatClampNeg ((13080 + (8 * x1)) + 3))))]) (st' := [.int 0]) (w' := q21.2) (g := []) (K := []) (by decide +kernel) rfl rfl rfl rfl jk0 ?_
            cases h
            exact ev_iret (by decide +kernel) rfl rfl rfl rfl
          · replace h := jneg c23 h
            refine ev_seg (o := 10) (nL := 6) (q := 232) (xs := [(.iconst 5, 1, 0, 0, .int 5), (.goto 4, 3, 0, 0, .null)]) (L' := [some (.ref 93), some (.int x1), some (.int x2), some (.int (13080 + (8 * x1))), some (.int (w.1 94 (Int32.toNatClampNeg ((13080 + (8 * x1)) + 1)))), some (.int (w.1 94 (Int32.toNatClampNeg ((13080 + (8 * x1)) + 3))))]) (st' := [.int 5]) (w' := q21.2) (g := []) (K := []) (by decide +kernel) rfl rfl rfl rfl jk0 ?_
            cases h
            exact ev_iret (by decide +kernel) rfl rfl rfl rfl
        · replace h := jneg c19 h
          by_cases c24 : (w.1 94 (Int32.toNatClampNeg (13080 + (8 * x1)))) = 4
          · replace h := jpos c24 h
            refine ev_tableIn (dflt := 213) (lo := 0) (hi := 5) (offs := #[37, 66, 101, 139, 198, 205]) (len := 37) (off := 198) (tgt := 233) (by decide +kernel) (by rw [c24]; decide) (by rw [c24]; decide) (by rw [c24]; decide) (by decide) ?_
            refine ev_seg (o := 10) (nL := 6) (q := 236) (xs := [(.aload_n 0, 1, 0, 0, .null), (.iload 5, 2, 5, 0, .null)]) (L' := [some (.ref 93), some (.int x1), some (.int x2), some (.int (13080 + (8 * x1))), some (.int (w.1 94 (Int32.toNatClampNeg ((13080 + (8 * x1)) + 1)))), some (.int (w.1 94 (Int32.toNatClampNeg ((13080 + (8 * x1)) + 3))))]) (st' := [.int (w.1 94 (Int32.toNatClampNeg ((13080 + (8 * x1)) + 3))), .ref 93]) (w' := w) (g := []) (K := []) (by decide +kernel) rfl rfl rfl rfl jk0 ?_
            obtain ⟨q25, hq25, h⟩ := jbe h
            refine ev_callV (ci := 10) (a := 93) (y2 := y_Model_judgedVisit) (o := 10) (idx := 313) (d2 := d_Model_judgedVisit) (n := 1) (mc2 := 0) (ms2 := 0) (As := [.int (w.1 94 (Int32.toNatClampNeg ((13080 + (8 * x1)) + 3)))]) (st := []) (res2 := (some (.int q25.1), jR0, q25.2)) (by decide +kernel) rfl lk_10_313 mo_Model_judgedVisit mv_Model_judgedVisit ⟨Nat.le_of_ble_eq_true rfl, Nat.le_of_ble_eq_true rfl⟩ rfl rfl kz_93 (by decide) rfl (Nat.le_of_ble_eq_true rfl) ⟨Nat.le_refl _, Nat.le_refl _⟩ hG (e_Model_judgedVisit hG hq25) ?_
            cases h
            exact ev_iret (by decide +kernel) rfl rfl rfl rfl
          · replace h := jneg c24 h
            by_cases c26 : (w.1 94 (Int32.toNatClampNeg (13080 + (8 * x1)))) = 5
            · replace h := jpos c26 h
              refine ev_tableIn (dflt := 213) (lo := 0) (hi := 5) (offs := #[37, 66, 101, 139, 198, 205]) (len := 37) (off := 205) (tgt := 240) (by decide +kernel) (by rw [c26]; decide) (by rw [c26]; decide) (by rw [c26]; decide) (by decide) ?_
              refine ev_seg (o := 10) (nL := 6) (q := 244) (xs := [(.aload_n 0, 1, 0, 0, .null), (.iload 5, 2, 5, 0, .null), (.iload_n 2, 1, 2, 0, .null)]) (L' := [some (.ref 93), some (.int x1), some (.int x2), some (.int (13080 + (8 * x1))), some (.int (w.1 94 (Int32.toNatClampNeg ((13080 + (8 * x1)) + 1)))), some (.int (w.1 94 (Int32.toNatClampNeg ((13080 + (8 * x1)) + 3))))]) (st' := [.int x2, .int (w.1 94 (Int32.toNatClampNeg ((13080 + (8 * x1)) + 3))), .ref 93]) (w' := w) (g := []) (K := []) (by decide +kernel) rfl rfl rfl rfl jk0 ?_
              obtain ⟨q27, hq27, h⟩ := jbe h
              refine ev_callV (ci := 10) (a := 93) (y2 := y_Model_judgedQuestion) (o := 10) (idx := 316) (d2 := d_Model_judgedQuestion) (n := 2) (mc2 := 0) (ms2 := 0) (As := [.int (w.1 94 (Int32.toNatClampNeg ((13080 + (8 * x1)) + 3))), .int x2]) (st := []) (res2 := (some (.int q27.1), jR0, q27.2)) (by decide +kernel) rfl lk_10_316 mo_Model_judgedQuestion mv_Model_judgedQuestion ⟨Nat.le_of_ble_eq_true rfl, Nat.le_of_ble_eq_true rfl⟩ rfl rfl kz_93 (by decide) rfl (Nat.le_of_ble_eq_true rfl) ⟨Nat.le_refl _, Nat.le_refl _⟩ hG (e_Model_judgedQuestion hG hq27) ?_
              cases h
              exact ev_iret (by decide +kernel) rfl rfl rfl rfl
            · replace h := jneg c26 h
              have ec2 := lv_neT (a := 0) c2 rfl
              have ec7 := lv_neT (a := 1) c7 rfl
              have ec13 := lv_neT (a := 2) c13 rfl
              have ec19 := lv_neT (a := 3) c19 rfl
              have ec24 := lv_neT (a := 4) c24 rfl
              have ec26 := lv_neT (a := 5) c26 rfl
              refine ev_tableOut (dflt := 213) (lo := 0) (hi := 5) (offs := #[37, 66, 101, 139, 198, 205]) (len := 37) (tgt := 248) (by decide +kernel) (by omega) (by decide) ?_
              refine ev_seg (o := 10) (nL := 6) (q := 249) (xs := [(.iconst 0, 1, 0, 0, .int 0)]) (L' := [some (.ref 93), some (.int x1), some (.int x2), some (.int (13080 + (8 * x1))), some (.int (w.1 94 (Int32.toNatClampNeg ((13080 + (8 * x1)) + 1)))), some (.int (w.1 94 (Int32.toNatClampNeg ((13080 + (8 * x1)) + 3))))]) (st' := [.int 0]) (w' := w) (g := []) (K := []) (by decide +kernel) rfl rfl rfl rfl jk0 ?_
              cases h
              exact ev_iret (by decide +kernel) rfl rfl rfl rfl

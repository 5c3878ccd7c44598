def f_Model_copy_h2 (a0 : Nat) (a1 : Nat) : Nat → Int32 → jW → Option jW
  | 0, _, _ => none
  | n + 1, x2, w =>
  if x2 < 21000 then
    if jal [jin x2 (jSl jR0 a1), jin x2 (jSl jR0 a0)] = true then
    jlw ((jup w.1 a1 (Int32.toNatClampNeg x2) (w.1 a0 (Int32.toNatClampNeg x2))), w.2) fun w2 =>
    (f_Model_copy_h2 a0 a1 n) (x2 + 1) w2
    else none
  else
    some w
set_option maxRecDepth 20000 in
theorem t_Model_copy_h2 {l : Launch} {G : jG} (hG : jX G) {a0 : Nat} {a1 : Nat} (h_a0 : jSk jR0 a0 = 20) (h_a1 : jSk jR0 a1 = 20) : ∀ (n : Nat) (x2 : Int32) (w : jW) (z : jW), f_Model_copy_h2 a0 a1 n x2 w = some z → Ev l G (jrm d_Model_copy 0 0) y_Model_copy (none, jR0, z) 0 0 0 0 2 [some (.ref a0), some (.ref a1), some (.int x2)] [] jR0 w := by
  intro n
  induction n with
  | zero => intro x2 w z h; simp only [f_Model_copy_h2] at h; cases h
  | succ n ih =>
    intro x2 w z h
    rw [f_Model_copy_h2] at h
    refine ev_seg (o := 10) (nL := 3) (q := 6) (xs := [(.iload_n 2, 1, 2, 0, .null), (.sipush 21000, 3, 0, 0, .int 21000)]) (L' := [some (.ref a0), some (.ref a1), some (.int x2)]) (st' := [.int 21000, .int x2]) (w' := w) (g := []) (K := []) (by decide +kernel) rfl rfl rfl rfl jk0 ?_
    refine ev_icmp_ge (off := 15) (tgt := 21) (by decide +kernel) (by decide) (fun c3 => ?_) (fun c3 => ?_)
    · replace h := jneg c3 h
      cases h
      exact ev_vret (by decide +kernel) rfl rfl rfl rfl
    · replace h := jpos c3 h
      obtain ⟨hg1, h⟩ := jgd h
      refine ev_seg (o := 10) (nL := 3) (q := 15) (xs := [(.aload_n 1, 1, 1, 0, .null), (.iload_n 2, 1, 2, 0, .null), (.aload_n 0, 1, 0, 0, .null), (.iload_n 2, 1, 2, 0, .null), (.iaload, 1, 0, 0, .null), (.iastore, 1, 0, 0, .null)]) (L' := [some (.ref a0), some (.ref a1), some (.int x2)]) (st' := []) (w' := ((jup w.1 a1 (Int32.toNatClampNeg x2) (w.1 a0 (Int32.toNatClampNeg x2))), w.2)) (g := [jin x2 (jSl jR0 a1), jin x2 (jSl jR0 a0)]) (K := [(a1, 20), (a0, 20)]) (by decide +kernel) rfl rfl rfl hg1 (jk1 h_a1 (jk1 h_a0 jk0)) ?_
      refine jlw_c (P := fun w2 => Ev l G (jrm d_Model_copy 0 0) y_Model_copy (none, jR0, z) 0 0 0 0 15 [some (.ref a0), some (.ref a1), some (.int x2)] [] jR0 w2) h fun w2 h => ?_
      refine ev_seg (o := 10) (nL := 3) (q := 2) (xs := [(.iinc 2 1, 3, 2, 0, .int 1), (.goto (-16), 3, 0, 0, .null)]) (L' := [some (.ref a0), some (.ref a1), some (.int (x2 + 1))]) (st' := []) (w' := w2) (g := []) (K := []) (by decide +kernel) rfl rfl rfl rfl jk0 ?_
      refine ev_mask [true, true, true] ?_
      exact ih _ _ _ h
def f_Model_copy (a0 : Nat) (a1 : Nat) (w : jW) : Option jW :=
  f_Model_copy_h2 a0 a1 jfu 0 w
set_option maxRecDepth 20000 in
theorem e_Model_copy {l : Launch} {G : jG} (hG : jX G) {a0 : Nat} {a1 : Nat} (h_a0 : jSk jR0 a0 = 20) (h_a1 : jSk jR0 a1 = 20) {w : jW} {z : jW} (h : f_Model_copy a0 a1 w = some z) : Ct l G y_Model_copy d_Model_copy 0 0 [.ref a0, .ref a1] jR0 w (none, jR0, z) := by
  rw [f_Model_copy] at h
  refine Ct.of (L := [some (.ref a0), some (.ref a1), none]) (by decide) (Nat.le_of_ble_eq_true rfl) rfl ?_
  refine ev_seg (o := 10) (nL := 3) (q := 2) (xs := [(.iconst 0, 1, 0, 0, .int 0), (.istore_n 2, 1, 2, 0, .null)]) (L' := [some (.ref a0), some (.ref a1), some (.int 0)]) (st' := []) (w' := w) (g := []) (K := []) (by decide +kernel) rfl rfl rfl rfl jk0 ?_
  refine ev_mask [true, true, true] ?_
  exact t_Model_copy_h2 hG h_a0 h_a1 jfu _ _ _ h
def f_Model_isIn (x0 : Int32) (x1 : Int32) (x2 : Int32) (w : jW) : Option (Int32 × jW) :=
  if x0 < x1 then
    some (0, w)
  else
    if x0 ≤ x2 then
      some (1, w)
    else
      some (0, w)
set_option maxRecDepth 20000 in
theorem e_Model_isIn {l : Launch} {G : jG} (hG : jX G) {x0 : Int32} {x1 : Int32} {x2 : Int32} {w : jW} {z : (Int32 × jW)} (h : f_Model_isIn x0 x1 x2 w = some z) : Ct l G y_Model_isIn d_Model_isIn 0 0 [.int x0, .int x1, .int x2] jR0 w (some (.int z.1), jR0, z.2) := by
  rw [f_Model_isIn] at h
  refine Ct.of (L := [some (.int x0), some (.int x1), some (.int x2)]) (by decide) (Nat.le_of_ble_eq_true rfl) rfl ?_
  refine ev_seg (o := 10) (nL := 3) (q := 2) (xs := [(.iload_n 0, 1, 0, 0, .null), (.iload_n 1, 1, 1, 0, .null)]) (L' := [some (.int x0), some (.int x1), some (.int x2)]) (st' := [.int x1, .int x0]) (w' := w) (g := []) (K := []) (by decide +kernel) rfl rfl rfl rfl jk0 ?_
  refine ev_icmp_lt (off := 12) (tgt := 14) (by decide +kernel) (by decide) (fun c2 => ?_) (fun c2 => ?_)
  · replace h := jpos c2 h
    refine ev_seg (o := 10) (nL := 3) (q := 15) (xs := [(.iconst 0, 1, 0, 0, .int 0)]) (L' := [some (.int x0), some (.int x1), some (.int x2)]) (st' := [.int 0]) (w' := w) (g := []) (K := []) (by decide +kernel) rfl rfl rfl rfl jk0 ?_
    cases h
    exact ev_zret (by decide +kernel) rfl rfl rfl rfl rfl
  · replace h := jneg c2 h
    refine ev_seg (o := 10) (nL := 3) (q := 7) (xs := [(.iload_n 0, 1, 0, 0, .null), (.iload_n 2, 1, 2, 0, .null)]) (L' := [some (.int x0), some (.int x1), some (.int x2)]) (st' := [.int x2, .int x0]) (w' := w) (g := []) (K := []) (by decide +kernel) rfl rfl rfl rfl jk0 ?_
    refine ev_icmp_gt (off := 7) (tgt := 14) (by decide +kernel) (by decide) (fun c1 => ?_) (fun c1 => ?_)
    · replace h := jneg c1 h
      refine ev_seg (o := 10) (nL := 3) (q := 15) (xs := [(.iconst 0, 1, 0, 0, .int 0)]) (L' := [some (.int x0), some (.int x1), some (.int x2)]) (st' := [.int 0]) (w' := w) (g := []) (K := []) (by decide +kernel) rfl rfl rfl rfl jk0 ?_
      cases h
      exact ev_zret (by decide +kernel) rfl rfl rfl rfl rfl
    · replace h := jpos c1 h
      refine ev_seg (o := 10) (nL := 3) (q := 15) (xs := [(.iconst 1, 1, 0, 0, .int 1), (.goto 4, 3, 0, 0, .null)]) (L' := [some (.int x0), some (.int x1), some (.int x2)]) (st' := [.int 1]) (w' := w) (g := []) (K := []) (by decide +kernel) rfl rfl rfl rfl jk0 ?_
      cases h
      exact ev_zret (by decide +kernel) rfl rfl rfl rfl rfl
def f_Model_isDay (x0 : Int32) (w : jW) : Option (Int32 × jW) :=
  Option.bind (f_Model_isIn x0 0 1999 w) fun q1 =>
  if jbo q1.1 = true then some (q1.1, q1.2) else none
set_option maxRecDepth 20000 in
theorem e_Model_isDay {l : Launch} {G : jG} (hG : jX G) {x0 : Int32} {w : jW} {z : (Int32 × jW)} (h : f_Model_isDay x0 w = some z) : Ct l G y_Model_isDay d_Model_isDay 0 0 [.int x0] jR0 w (some (.int z.1), jR0, z.2) := by
  rw [f_Model_isDay] at h
  refine Ct.of (L := [some (.int x0)]) (by decide) (Nat.le_of_ble_eq_true rfl) rfl ?_
  refine ev_seg (o := 10) (nL := 1) (q := 5) (xs := [(.iload_n 0, 1, 0, 0, .null), (.iconst 0, 1, 0, 0, .int 0), (.sipush 1999, 3, 0, 0, .int 1999)]) (L' := [some (.int x0)]) (st' := [.int 1999, .int 0, .int x0]) (w' := w) (g := []) (K := []) (by decide +kernel) rfl rfl rfl rfl jk0 ?_
  obtain ⟨q1, hq1, h⟩ := jbe h
  refine ev_callS (y2 := y_Model_isIn) (o := 10) (idx := 46) (d2 := d_Model_isIn) (n := 3) (mc2 := 0) (ms2 := 0) (As := [.int x0, .int 0, .int 1999]) (st := []) (res2 := (some (.int q1.1), jR0, q1.2)) (by decide +kernel) rfl lk_10_46 mo_Model_isIn ms_Model_isIn ⟨Nat.le_of_ble_eq_true rfl, Nat.le_of_ble_eq_true rfl⟩ rfl rfl (Nat.le_of_ble_eq_true rfl) ⟨Nat.le_refl _, Nat.le_refl _⟩ hG (e_Model_isIn hG hq1) ?_
  obtain ⟨hz, h⟩ := jgd h
  cases h
  exact ev_zret (by decide +kernel) rfl hz rfl rfl rfl
def f_Model_isSite (x1 : Int32) (w : jW) : Option (Int32 × jW) :=
  if jal [jin 1 21000] = true then
  Option.bind (f_Model_isIn x1 0 ((w.1 94 (Int32.toNatClampNeg 1)) - 1) w) fun q2 =>
  if jbo q2.1 = true then some (q2.1, q2.2) else none
  else none
set_option maxRecDepth 20000 in
theorem e_Model_isSite {l : Launch} {G : jG} (hG : jX G) {x1 : Int32} {w : jW} {z : (Int32 × jW)} (h : f_Model_isSite x1 w = some z) : Ct l G y_Model_isSite d_Model_isSite 0 0 [.ref 93, .int x1] jR0 w (some (.int z.1), jR0, z.2) := by
  rw [f_Model_isSite] at h
  refine Ct.of (L := [some (.ref 93), some (.int x1)]) (by decide) (Nat.le_of_ble_eq_true rfl) rfl ?_
  obtain ⟨hg1, h⟩ := jgd h
  refine ev_seg (o := 10) (nL := 2) (q := 10) (xs := [(.iload_n 1, 1, 1, 0, .null), (.iconst 0, 1, 0, 0, .int 0), (.aload_n 0, 1, 0, 0, .null), (.getfield 7, 3, 10, 0, .ref 20), (.iconst 1, 1, 0, 0, .int 1), (.iaload, 1, 0, 0, .null), (.iconst 1, 1, 0, 0, .int 1), (.isub, 1, 0, 0, .null)]) (L' := [some (.ref 93), some (.int x1)]) (st' := [.int ((w.1 94 (Int32.toNatClampNeg 1)) - 1), .int 0, .int x1]) (w' := w) (g := [jin 1 21000]) (K := [(94, 20), (94, 20), (93, 10)]) (by decide +kernel) rfl rfl rfl hg1 (jk1 kz_94 (jk1 kz_94 (jk1 kz_93 jk0))) ?_
  obtain ⟨q2, hq2, h⟩ := jbe h
  refine ev_callS (y2 := y_Model_isIn) (o := 10) (idx := 46) (d2 := d_Model_isIn) (n := 3) (mc2 := 0) (ms2 := 0) (As := [.int x1, .int 0, .int ((w.1 94 (Int32.toNatClampNeg 1)) - 1)]) (st := []) (res2 := (some (.int q2.1), jR0, q2.2)) (by decide +kernel) rfl lk_10_46 mo_Model_isIn ms_Model_isIn ⟨Nat.le_of_ble_eq_true rfl, Nat.le_of_ble_eq_true rfl⟩ rfl rfl (Nat.le_of_ble_eq_true rfl) ⟨Nat.le_refl _, Nat.le_refl _⟩ hG (e_Model_isIn hG hq2) ?_
  obtain ⟨hz, h⟩ := jgd h
  cases h
  exact ev_zret (by decide +kernel) rfl hz rfl rfl rfl
def f_Model_isThing (x1 : Int32) (w : jW) : Option (Int32 × jW) :=
  if jal [jin 3 21000] = true then
  Option.bind (f_Model_isIn x1 0 ((w.1 94 (Int32.toNatClampNeg 3)) - 1) w) fun q2 =>
  if jbo q2.1 = true then some (q2.1, q2.2) else none
  else none
set_option maxRecDepth 20000 in
theorem e_Model_isThing {l : Launch} {G : jG} (hG : jX G) {x1 : Int32} {w : jW} {z : (Int32 × jW)} (h : f_Model_isThing x1 w = some z) : Ct l G y_Model_isThing d_Model_isThing 0 0 [.ref 93, .int x1] jR0 w (some (.int z.1), jR0, z.2) := by
  rw [f_Model_isThing] at h
  refine Ct.of (L := [some (.ref 93), some (.int x1)]) (by decide) (Nat.le_of_ble_eq_true rfl) rfl ?_
  obtain ⟨hg1, h⟩ := jgd h
  refine ev_seg (o := 10) (nL := 2) (q := 10) (xs := [(.iload_n 1, 1, 1, 0, .null), (.iconst 0, 1, 0, 0, .int 0), (.aload_n 0, 1, 0, 0, .null), (.getfield 7, 3, 10, 0, .ref 20), (.iconst 3, 1, 0, 0, .int 3), (.iaload, 1, 0, 0, .null), (.iconst 1, 1, 0, 0, .int 1), (.isub, 1, 0, 0, .null)]) (L' := [some (.ref 93), some (.int x1)]) (st' := [.int ((w.1 94 (Int32.toNatClampNeg 3)) - 1), .int 0, .int x1]) (w' := w) (g := [jin 3 21000]) (K := [(94, 20), (94, 20), (93, 10)]) (by decide +kernel) rfl rfl rfl hg1 (jk1 kz_94 (jk1 kz_94 (jk1 kz_93 jk0))) ?_
  obtain ⟨q2, hq2, h⟩ := jbe h
  refine ev_callS (y2 := y_Model_isIn) (o := 10) (idx := 46) (d2 := d_Model_isIn) (n := 3) (mc2 := 0) (ms2 := 0) (As := [.int x1, .int 0, .int ((w.1 94 (Int32.toNatClampNeg 3)) - 1)]) (st := []) (res2 := (some (.int q2.1), jR0, q2.2)) (by decide +kernel) rfl lk_10_46 mo_Model_isIn ms_Model_isIn ⟨Nat.le_of_ble_eq_true rfl, Nat.le_of_ble_eq_true rfl⟩ rfl rfl (Nat.le_of_ble_eq_true rfl) ⟨Nat.le_refl _, Nat.le_refl _⟩ hG (e_Model_isIn hG hq2) ?_
  obtain ⟨hz, h⟩ := jgd h
  cases h
  exact ev_zret (by decide +kernel) rfl hz rfl rfl rfl
def f_Model_siteAt (x1 : Int32) (x2 : Int32) (w : jW) : Option (Int32 × jW) :=
  if jal [jin ((40 + (8 * x1)) + x2) 21000] = true then
  some ((w.1 94 (Int32.toNatClampNeg ((40 + (8 * x1)) + x2))), w)
  else none
set_option maxRecDepth 20000 in
theorem e_Model_siteAt {l : Launch} {G : jG} (hG : jX G) {x1 : Int32} {x2 : Int32} {w : jW} {z : (Int32 × jW)} (h : f_Model_siteAt x1 x2 w = some z) : Ct l G y_Model_siteAt d_Model_siteAt 0 0 [.ref 93, .int x1, .int x2] jR0 w (some (.int z.1), jR0, z.2) := by
  rw [f_Model_siteAt] at h
  refine Ct.of (L := [some (.ref 93), some (.int x1), some (.int x2)]) (by decide) (Nat.le_of_ble_eq_true rfl) rfl ?_
  obtain ⟨hg1, h⟩ := jgd h
  refine ev_seg (o := 10) (nL := 3) (q := 14) (xs := [(.aload_n 0, 1, 0, 0, .null), (.getfield 7, 3, 10, 0, .ref 20), (.bipush 40, 2, 0, 0, .int 40), (.bipush 8, 2, 0, 0, .int 8), (.iload_n 1, 1, 1, 0, .null), (.imul, 1, 0, 0, .null), (.iadd, 1, 0, 0, .null), (.iload_n 2, 1, 2, 0, .null), (.iadd, 1, 0, 0, .null), (.iaload, 1, 0, 0, .null)]) (L' := [some (.ref 93), some (.int x1), some (.int x2)]) (st' := [.int (w.1 94 (Int32.toNatClampNeg ((40 + (8 * x1)) + x2)))]) (w' := w) (g := [jin ((40 + (8 * x1)) + x2) 21000]) (K := [(94, 20), (94, 20), (93, 10)]) (by decide +kernel) rfl rfl rfl hg1 (jk1 kz_94 (jk1 kz_94 (jk1 kz_93 jk0))) ?_
  cases h
  exact ev_iret (by decide +kernel) rfl rfl rfl rfl
def f_Model_thingAt (x1 : Int32) (x2 : Int32) (w : jW) : Option (Int32 × jW) :=
  if jal [jin ((240 + (12 * x1)) + x2) 21000] = true then
  some ((w.1 94 (Int32.toNatClampNeg ((240 + (12 * x1)) + x2))), w)
  else none
set_option maxRecDepth 20000 in
theorem e_Model_thingAt {l : Launch} {G : jG} (hG : jX G) {x1 : Int32} {x2 : Int32} {w : jW} {z : (Int32 × jW)} (h : f_Model_thingAt x1 x2 w = some z) : Ct l G y_Model_thingAt d_Model_thingAt 0 0 [.ref 93, .int x1, .int x2] jR0 w (some (.int z.1), jR0, z.2) := by
  rw [f_Model_thingAt] at h
  refine Ct.of (L := [some (.ref 93), some (.int x1), some (.int x2)]) (by decide) (Nat.le_of_ble_eq_true rfl) rfl ?_
  obtain ⟨hg1, h⟩ := jgd h
  refine ev_seg (o := 10) (nL := 3) (q := 15) (xs := [(.aload_n 0, 1, 0, 0, .null), (.getfield 7, 3, 10, 0, .ref 20), (.sipush 240, 3, 0, 0, .int 240), (.bipush 12, 2, 0, 0, .int 12), (.iload_n 1, 1, 1, 0, .null), (.imul, 1, 0, 0, .null), (.iadd, 1, 0, 0, .null), (.iload_n 2, 1, 2, 0, .null), (.iadd, 1, 0, 0, .null), (.iaload, 1, 0, 0, .null)]) (L' := [some (.ref 93), some (.int x1), some (.int x2)]) (st' := [.int (w.1 94 (Int32.toNatClampNeg ((240 + (12 * x1)) + x2)))]) (w' := w) (g := [jin ((240 + (12 * x1)) + x2) 21000]) (K := [(94, 20), (94, 20), (93, 10)]) (by decide +kernel) rfl rfl rfl hg1 (jk1 kz_94 (jk1 kz_94 (jk1 kz_93 jk0))) ?_
  cases h
  exact ev_iret (by decide +kernel) rfl rfl rfl rfl
def f_Model_moveAt (x1 : Int32) (x2 : Int32) (w : jW) : Option (Int32 × jW) :=
  if jal [jin ((720 + (8 * x1)) + x2) 21000] = true then
  some ((w.1 94 (Int32.toNatClampNeg ((720 + (8 * x1)) + x2))), w)
  else none
set_option maxRecDepth 20000 in
theorem e_Model_moveAt {l : Launch} {G : jG} (hG : jX G) {x1 : Int32} {x2 : Int32} {w : jW} {z : (Int32 × jW)} (h : f_Model_moveAt x1 x2 w = some z) : Ct l G y_Model_moveAt d_Model_moveAt 0 0 [.ref 93, .int x1, .int x2] jR0 w (some (.int z.1), jR0, z.2) := by
  rw [f_Model_moveAt] at h
  refine Ct.of (L := [some (.ref 93), some (.int x1), some (.int x2)]) (by decide) (Nat.le_of_ble_eq_true rfl) rfl ?_
  obtain ⟨hg1, h⟩ := jgd h
  refine ev_seg (o := 10) (nL := 3) (q := 15) (xs := [(.aload_n 0, 1, 0, 0, .null), (.getfield 7, 3, 10, 0, .ref 20), (.sipush 720, 3, 0, 0, .int 720), (.bipush 8, 2, 0, 0, .int 8), (.iload_n 1, 1, 1, 0, .null), (.imul, 1, 0, 0, .null), (.iadd, 1, 0, 0, .null), (.iload_n 2, 1, 2, 0, .null), (.iadd, 1, 0, 0, .null), (.iaload, 1, 0, 0, .null)]) (L' := [some (.ref 93), some (.int x1), some (.int x2)]) (st' := [.int (w.1 94 (Int32.toNatClampNeg ((720 + (8 * x1)) + x2)))]) (w' := w) (g := [jin ((720 + (8 * x1)) + x2) 21000]) (K := [(94, 20), (94, 20), (93, 10)]) (by decide +kernel) rfl rfl rfl hg1 (jk1 kz_94 (jk1 kz_94 (jk1 kz_93 jk0))) ?_
  cases h
  exact ev_iret (by decide +kernel) rfl rfl rfl rfl
def f_Model_site_j101 (x5 : Int32) (s0 : Int32) (s1 : Int32) (w : jW) : Option (Int32 × jW) :=
  if jal [jin s1 21000] = true then
  jlw ((jup w.1 94 (Int32.toNatClampNeg s1) s0), w.2) fun w11 =>
  if jal [jin (x5 + 4) 21000] = true then
  jlw ((jup w11.1 94 (Int32.toNatClampNeg (x5 + 4)) 10), w11.2) fun w13 =>
  if jal [jin 1 21000, jin 1 21000] = true then
  jlw ((jup w13.1 94 (Int32.toNatClampNeg 1) ((w13.1 94 (Int32.toNatClampNeg 1)) + 1)), w13.2) fun w15 =>
  if jal [jin 1 21000] = true then
  some (((w15.1 94 (Int32.toNatClampNeg 1)) - 1), w15)
  else none else none else none else none
set_option maxRecDepth 20000 in
theorem t_Model_site_j101 {l : Launch} {G : jG} (hG : jX G) {x5 : Int32} {s0 : Int32} {s1 : Int32} {w : jW} {z : (Int32 × jW)} (h : f_Model_site_j101 x5 s0 s1 w = some z) : Ev l G (jrm d_Model_site 0 0) y_Model_site (some (.int z.1), jR0, z.2) 0 0 0 0 101 [some (.ref 93), none, none, none, none, some (.int x5)] [.int s0, .int s1, .ref 94] jR0 w := by
  rw [f_Model_site_j101] at h
  obtain ⟨hg10, h⟩ := jgd h
  refine ev_seg (o := 10) (nL := 6) (q := 102) (xs := [(.iastore, 1, 0, 0, .null)]) (L' := [some (.ref 93), none, none, none, none, some (.int x5)]) (st' := []) (w' := ((jup w.1 94 (Int32.toNatClampNeg s1) s0), w.2)) (g := [jin s1 21000]) (K := [(94, 20)]) (by decide +kernel) rfl rfl rfl hg10 (jk1 kz_94 jk0) ?_
  refine jlw_c (P := fun w11 => Ev l G (jrm d_Model_site 0 0) y_Model_site (some (.int z.1), jR0, z.2) 0 0 0 0 102 [some (.ref 93), none, none, none, none, some (.int x5)] [] jR0 w11) h fun w11 h => ?_
  obtain ⟨hg12, h⟩ := jgd h
  refine ev_seg (o := 10) (nL := 6) (q := 113) (xs := [(.aload_n 0, 1, 0, 0, .null), (.getfield 7, 3, 10, 0, .ref 20), (.iload 5, 2, 5, 0, .null), (.iconst 4, 1, 0, 0, .int 4), (.iadd, 1, 0, 0, .null), (.bipush 10, 2, 0, 0, .int 10), (.iastore, 1, 0, 0, .null)]) (L' := [some (.ref 93), none, none, none, none, some (.int x5)]) (st' := []) (w' := ((jup w11.1 94 (Int32.toNatClampNeg (x5 + 4)) 10), w11.2)) (g := [jin (x5 + 4) 21000]) (K := [(94, 20), (94, 20), (93, 10)]) (by decide +kernel) rfl rfl rfl hg12 (jk1 kz_94 (jk1 kz_94 (jk1 kz_93 jk0))) ?_
  refine jlw_c (P := fun w13 => Ev l G (jrm d_Model_site 0 0) y_Model_site (some (.int z.1), jR0, z.2) 0 0 0 0 113 [some (.ref 93), none, none, none, none, some (.int x5)] [] jR0 w13) h fun w13 h => ?_
  obtain ⟨hg14, h⟩ := jgd h
  refine ev_seg (o := 10) (nL := 6) (q := 123) (xs := [(.aload_n 0, 1, 0, 0, .null), (.getfield 7, 3, 10, 0, .ref 20), (.iconst 1, 1, 0, 0, .int 1), (.dup2, 1, 0, 0, .null), (.iaload, 1, 0, 0, .null), (.iconst 1, 1, 0, 0, .int 1), (.iadd, 1, 0, 0, .null), (.iastore, 1, 0, 0, .null)]) (L' := [some (.ref 93), none, none, none, none, some (.int x5)]) (st' := []) (w' := ((jup w13.1 94 (Int32.toNatClampNeg 1) ((w13.1 94 (Int32.toNatClampNeg 1)) + 1)), w13.2)) (g := [jin 1 21000, jin 1 21000]) (K := [(94, 20), (94, 20), (94, 20), (93, 10)]) (by decide +kernel) rfl rfl rfl hg14 (jk1 kz_94 (jk1 kz_94 (jk1 kz_94 (jk1 kz_93 jk0)))) ?_
  refine jlw_c (P := fun w15 => Ev l G (jrm d_Model_site 0 0) y_Model_site (some (.int z.1), jR0, z.2) 0 0 0 0 123 [some (.ref 93), none, none, none, none, some (.int x5)] [] jR0 w15) h fun w15 h => ?_
  obtain ⟨hg16, h⟩ := jgd h
  refine ev_seg (o := 10) (nL := 6) (q := 131) (xs := [(.aload_n 0, 1, 0, 0, .null), (.getfield 7, 3, 10, 0, .ref 20), (.iconst 1, 1, 0, 0, .int 1), (.iaload, 1, 0, 0, .null), (.iconst 1, 1, 0, 0, .int 1), (.isub, 1, 0, 0, .null)]) (L' := [some (.ref 93), none, none, none, none, some (.int x5)]) (st' := [.int ((w15.1 94 (Int32.toNatClampNeg 1)) - 1)]) (w' := w15) (g := [jin 1 21000]) (K := [(94, 20), (94, 20), (93, 10)]) (by decide +kernel) rfl rfl rfl hg16 (jk1 kz_94 (jk1 kz_94 (jk1 kz_93 jk0))) ?_
  cases h
  exact ev_iret (by decide +kernel) rfl rfl rfl rfl
def f_Model_site_j82 (x4 : Int32) (x5 : Int32) (s0 : Int32) (s1 : Int32) (w : jW) : Option (Int32 × jW) :=
  if jal [jin s1 21000] = true then
  jlw ((jup w.1 94 (Int32.toNatClampNeg s1) s0), w.2) fun w9 =>
  if x4 = 0 then
    f_Model_site_j101 x5 0 (x5 + 3) w9
  else
    f_Model_site_j101 x5 1 (x5 + 3) w9
  else none
set_option maxRecDepth 20000 in
theorem t_Model_site_j82 {l : Launch} {G : jG} (hG : jX G) {x4 : Int32} {x5 : Int32} {s0 : Int32} {s1 : Int32} {w : jW} {z : (Int32 × jW)} (h : f_Model_site_j82 x4 x5 s0 s1 w = some z) : Ev l G (jrm d_Model_site 0 0) y_Model_site (some (.int z.1), jR0, z.2) 0 0 0 0 82 [some (.ref 93), none, none, none, some (.int x4), some (.int x5)] [.int s0, .int s1, .ref 94] jR0 w := by
  rw [f_Model_site_j82] at h
  obtain ⟨hg8, h⟩ := jgd h
  refine ev_seg (o := 10) (nL := 6) (q := 83) (xs := [(.iastore, 1, 0, 0, .null)]) (L' := [some (.ref 93), none, none, none, some (.int x4), some (.int x5)]) (st' := []) (w' := ((jup w.1 94 (Int32.toNatClampNeg s1) s0), w.2)) (g := [jin s1 21000]) (K := [(94, 20)]) (by decide +kernel) rfl rfl rfl hg8 (jk1 kz_94 jk0) ?_
  refine jlw_c (P := fun w9 => Ev l G (jrm d_Model_site 0 0) y_Model_site (some (.int z.1), jR0, z.2) 0 0 0 0 83 [some (.ref 93), none, none, none, some (.int x4), some (.int x5)] [] jR0 w9) h fun w9 h => ?_
  refine ev_seg (o := 10) (nL := 6) (q := 93) (xs := [(.aload_n 0, 1, 0, 0, .null), (.getfield 7, 3, 10, 0, .ref 20), (.iload 5, 2, 5, 0, .null), (.iconst 3, 1, 0, 0, .int 3), (.iadd, 1, 0, 0, .null), (.iload 4, 2, 4, 0, .null)]) (L' := [some (.ref 93), none, none, none, some (.int x4), some (.int x5)]) (st' := [.int x4, .int (x5 + 3), .ref 94]) (w' := w9) (g := []) (K := [(94, 20), (93, 10)]) (by decide +kernel) rfl rfl rfl rfl (jk1 kz_94 (jk1 kz_93 jk0)) ?_
  refine ev_if_eq (off := 7) (tgt := 100) (by decide +kernel) (by decide) (fun c17 => ?_) (fun c17 => ?_)
  · replace h := jpos c17 h
    refine ev_seg (o := 10) (nL := 6) (q := 101) (xs := [(.iconst 0, 1, 0, 0, .int 0)]) (L' := [some (.ref 93), none, none, none, some (.int x4), some (.int x5)]) (st' := [.int 0, .int (x5 + 3), .ref 94]) (w' := w9) (g := []) (K := []) (by decide +kernel) rfl rfl rfl rfl jk0 ?_
    refine ev_mask [true, false, false, false, false, true] ?_
    exact t_Model_site_j101 hG h
  · replace h := jneg c17 h
    refine ev_seg (o := 10) (nL := 6) (q := 101) (xs := [(.iconst 1, 1, 0, 0, .int 1), (.goto 4, 3, 0, 0, .null)]) (L' := [some (.ref 93), none, none, none, some (.int x4), some (.int x5)]) (st' := [.int 1, .int (x5 + 3), .ref 94]) (w' := w9) (g := []) (K := []) (by decide +kernel) rfl rfl rfl rfl jk0 ?_
    refine ev_mask [true, false, false, false, false, true] ?_
    exact t_Model_site_j101 hG h
def f_Model_site (x1 : Int32) (x2 : Int32) (x3 : Int32) (x4 : Int32) (w : jW) : Option (Int32 × jW) :=
  Option.bind (f_Model_isIn x1 0 1 w) fun q1 =>
  if q1.1 = 0 then
    some ((-1), q1.2)
  else
    Option.bind (f_Model_isIn x2 0 3 q1.2) fun q2 =>
    if q2.1 = 0 then
      some ((-1), q2.2)
    else
      if jal [jin 1 21000] = true then
      if (q2.2.1 94 (Int32.toNatClampNeg 1)) = 10 then
        some ((-1), q2.2)
      else
        if jal [jin ((40 + (8 * (q2.2.1 94 (Int32.toNatClampNeg 1)))) + 0) 21000, jin 1 21000] = true then
        jlw ((jup q2.2.1 94 (Int32.toNatClampNeg ((40 + (8 * (q2.2.1 94 (Int32.toNatClampNeg 1)))) + 0)) x1), q2.2.2) fun w5 =>
        if jal [jin ((40 + (8 * (q2.2.1 94 (Int32.toNatClampNeg 1)))) + 1) 21000] = true then
        jlw ((jup w5.1 94 (Int32.toNatClampNeg ((40 + (8 * (q2.2.1 94 (Int32.toNatClampNeg 1)))) + 1)) x2), w5.2) fun w7 =>
        if x3 = 0 then
          f_Model_site_j82 x4 (40 + (8 * (q2.2.1 94 (Int32.toNatClampNeg 1)))) 0 ((40 + (8 * (q2.2.1 94 (Int32.toNatClampNeg 1)))) + 2) w7
        else
          f_Model_site_j82 x4 (40 + (8 * (q2.2.1 94 (Int32.toNatClampNeg 1)))) 1 ((40 + (8 * (q2.2.1 94 (Int32.toNatClampNeg 1)))) + 2) w7
        else none else none
      else none
set_option maxRecDepth 20000 in
theorem e_Model_site {l : Launch} {G : jG} (hG : jX G) {x1 : Int32} {x2 : Int32} {x3 : Int32} {x4 : Int32} {w : jW} {z : (Int32 × jW)} (h : f_Model_site x1 x2 x3 x4 w = some z) : Ct l G y_Model_site d_Model_site 0 0 [.ref 93, .int x1, .int x2, .int x3, .int x4] jR0 w (some (.int z.1), jR0, z.2) := by
  rw [f_Model_site] at h
  refine Ct.of (L := [some (.ref 93), some (.int x1), some (.int x2), some (.int x3), some (.int x4), none]) (by decide) (Nat.le_of_ble_eq_true rfl) rfl ?_
  refine ev_seg (o := 10) (nL := 6) (q := 3) (xs := [(.iload_n 1, 1, 1, 0, .null), (.iconst 0, 1, 0, 0, .int 0), (.iconst 1, 1, 0, 0, .int 1)]) (L' := [some (.ref 93), some (.int x1), some (.int x2), some (.int x3), some (.int x4), none]) (st' := [.int 1, .int 0, .int x1]) (w' := w) (g := []) (K := []) (by decide +kernel) rfl rfl rfl rfl jk0 ?_
  obtain ⟨q1, hq1, h⟩ := jbe h
  refine ev_callS (y2 := y_Model_isIn) (o := 10) (idx := 46) (d2 := d_Model_isIn) (n := 3) (mc2 := 0) (ms2 := 0) (As := [.int x1, .int 0, .int 1]) (st := []) (res2 := (some (.int q1.1), jR0, q1.2)) (by decide +kernel) rfl lk_10_46 mo_Model_isIn ms_Model_isIn ⟨Nat.le_of_ble_eq_true rfl, Nat.le_of_ble_eq_true rfl⟩ rfl rfl (Nat.le_of_ble_eq_true rfl) ⟨Nat.le_refl _, Nat.le_refl _⟩ hG (e_Model_isIn hG hq1) ?_
  refine ev_if_eq (off := 23) (tgt := 29) (by decide +kernel) (by decide) (fun c21 => ?_) (fun c21 => ?_)
  · replace h := jpos c21 h
    refine ev_seg (o := 10) (nL := 6) (q := 30) (xs := [(.iconst (-1), 1, 0, 0, .int (-1))]) (L' := [some (.ref 93), some (.int x1), some (.int x2), some (.int x3), some (.int x4), none]) (st' := [.int (-1)]) (w' := q1.2) (g := []) (K := []) (by decide +kernel) rfl rfl rfl rfl jk0 ?_
    cases h
    exact ev_iret (by decide +kernel) rfl rfl rfl rfl
  · replace h := jneg c21 h
    refine ev_seg (o := 10) (nL := 6) (q := 12) (xs := [(.iload_n 2, 1, 2, 0, .null), (.iconst 0, 1, 0, 0, .int 0), (.iconst 3, 1, 0, 0, .int 3)]) (L' := [some (.ref 93), some (.int x1), some (.int x2), some (.int x3), some (.int x4), none]) (st' := [.int 3, .int 0, .int x2]) (w' := q1.2) (g := []) (K := []) (by decide +kernel) rfl rfl rfl rfl jk0 ?_
    obtain ⟨q2, hq2, h⟩ := jbe h
    refine ev_callS (y2 := y_Model_isIn) (o := 10) (idx := 46) (d2 := d_Model_isIn) (n := 3) (mc2 := 0) (ms2 := 0) (As := [.int x2, .int 0, .int 3]) (st := []) (res2 := (some (.int q2.1), jR0, q2.2)) (by decide +kernel) rfl lk_10_46 mo_Model_isIn ms_Model_isIn ⟨Nat.le_of_ble_eq_true rfl, Nat.le_of_ble_eq_true rfl⟩ rfl rfl (Nat.le_of_ble_eq_true rfl) ⟨Nat.le_refl _, Nat.le_refl _⟩ hG (e_Model_isIn hG hq2) ?_
    refine ev_if_eq (off := 14) (tgt := 29) (by decide +kernel) (by decide) (fun c20 => ?_) (fun c20 => ?_)
    · replace h := jpos c20 h
      refine ev_seg (o := 10) (nL := 6) (q := 30) (xs := [(.iconst (-1), 1, 0, 0, .int (-1))]) (L' := [some (.ref 93), some (.int x1), some (.int x2), some (.int x3), some (.int x4), none]) (st' := [.int (-1)]) (w' := q2.2) (g := []) (K := []) (by decide +kernel) rfl rfl rfl rfl jk0 ?_
      cases h
      exact ev_iret (by decide +kernel) rfl rfl rfl rfl
    · replace h := jneg c20 h
      obtain ⟨hg3, h⟩ := jgd h
      refine ev_seg (o := 10) (nL := 6) (q := 26) (xs := [(.aload_n 0, 1, 0, 0, .null), (.getfield 7, 3, 10, 0, .ref 20), (.iconst 1, 1, 0, 0, .int 1), (.iaload, 1, 0, 0, .null), (.bipush 10, 2, 0, 0, .int 10)]) (L' := [some (.ref 93), some (.int x1), some (.int x2), some (.int x3), some (.int x4), none]) (st' := [.int 10, .int (q2.2.1 94 (Int32.toNatClampNeg 1))]) (w' := q2.2) (g := [jin 1 21000]) (K := [(94, 20), (94, 20), (93, 10)]) (by decide +kernel) rfl rfl rfl hg3 (jk1 kz_94 (jk1 kz_94 (jk1 kz_93 jk0))) ?_
      refine ev_icmp_ne (off := 5) (tgt := 31) (by decide +kernel) (by decide) (fun c19 => ?_) (fun c19 => ?_)
      · replace h := jneg c19 h
        obtain ⟨hg4, h⟩ := jgd h
        refine ev_seg (o := 10) (nL := 6) (q := 55) (xs := [(.bipush 40, 2, 0, 0, .int 40), (.bipush 8, 2, 0, 0, .int 8), (.aload_n 0, 1, 0, 0, .null), (.getfield 7, 3, 10, 0, .ref 20), (.iconst 1, 1, 0, 0, .int 1), (.iaload, 1, 0, 0, .null), (.imul, 1, 0, 0, .null), (.iadd, 1, 0, 0, .null), (.istore 5, 2, 5, 0, .null), (.aload_n 0, 1, 0, 0, .null), (.getfield 7, 3, 10, 0, .ref 20), (.iload 5, 2, 5, 0, .null), (.iconst 0, 1, 0, 0, .int 0), (.iadd, 1, 0, 0, .null), (.iload_n 1, 1, 1, 0, .null), (.iastore, 1, 0, 0, .null)]) (L' := [some (.ref 93), some (.int x1), some (.int x2), some (.int x3), some (.int x4), some (.int (40 + (8 * (q2.2.1 94 (Int32.toNatClampNeg 1)))))]) (st' := []) (w' := ((jup q2.2.1 94 (Int32.toNatClampNeg ((40 + (8 * (q2.2.1 94 (Int32.toNatClampNeg 1)))) + 0)) x1), q2.2.2)) (g := [jin ((40 + (8 * (q2.2.1 94 (Int32.toNatClampNeg 1)))) + 0) 21000, jin 1 21000]) (K := [(94, 20), (94, 20), (93, 10), (94, 20), (94, 20), (93, 10)]) (by decide +kernel) rfl rfl rfl hg4 (jk1 kz_94 (jk1 kz_94 (jk1 kz_93 (jk1 kz_94 (jk1 kz_94 (jk1 kz_93 jk0)))))) ?_
        refine jlw_c (P := fun w5 => Ev l G (jrm d_Model_site 0 0) y_Model_site (some (.int z.1), jR0, z.2) 0 0 0 0 55 [some (.ref 93), some (.int x1), some (.int x2), some (.int x3), some (.int x4), some (.int (40 + (8 * (q2.2.1 94 (Int32.toNatClampNeg 1)))))] [] jR0 w5) h fun w5 h => ?_
        obtain ⟨hg6, h⟩ := jgd h
        refine ev_seg (o := 10) (nL := 6) (q := 65) (xs := [(.aload_n 0, 1, 0, 0, .null), (.getfield 7, 3, 10, 0, .ref 20), (.iload 5, 2, 5, 0, .null), (.iconst 1, 1, 0, 0, .int 1), (.iadd, 1, 0, 0, .null), (.iload_n 2, 1, 2, 0, .null), (.iastore, 1, 0, 0, .null)]) (L' := [some (.ref 93), some (.int x1), some (.int x2), some (.int x3), some (.int x4), some (.int (40 + (8 * (q2.2.1 94 (Int32.toNatClampNeg 1)))))]) (st' := []) (w' := ((jup w5.1 94 (Int32.toNatClampNeg ((40 + (8 * (q2.2.1 94 (Int32.toNatClampNeg 1)))) + 1)) x2), w5.2)) (g := [jin ((40 + (8 * (q2.2.1 94 (Int32.toNatClampNeg 1)))) + 1) 21000]) (K := [(94, 20), (94, 20), (93, 10)]) (by decide +kernel) rfl rfl rfl hg6 (jk1 kz_94 (jk1 kz_94 (jk1 kz_93 jk0))) ?_
        refine jlw_c (P := fun w7 => Ev l G (jrm d_Model_site 0 0) y_Model_site (some (.int z.1), jR0, z.2) 0 0 0 0 65 [some (.ref 93), some (.int x1), some (.int x2), some (.int x3), some (.int x4), some (.int (40 + (8 * (q2.2.1 94 (Int32.toNatClampNeg 1)))))] [] jR0 w7) h fun w7 h => ?_
        refine ev_seg (o := 10) (nL := 6) (q := 74) (xs := [(.aload_n 0, 1, 0, 0, .null), (.getfield 7, 3, 10, 0, .ref 20), (.iload 5, 2, 5, 0, .null), (.iconst 2, 1, 0, 0, .int 2), (.iadd, 1, 0, 0, .null), (.iload_n 3, 1, 3, 0, .null)]) (L' := [some (.ref 93), some (.int x1), some (.int x2), some (.int x3), some (.int x4), some (.int (40 + (8 * (q2.2.1 94 (Int32.toNatClampNeg 1)))))]) (st' := [.int x3, .int ((40 + (8 * (q2.2.1 94 (Int32.toNatClampNeg 1)))) + 2), .ref 94]) (w' := w7) (g := []) (K := [(94, 20), (93, 10)]) (by decide +kernel) rfl rfl rfl rfl (jk1 kz_94 (jk1 kz_93 jk0)) ?_
        refine ev_if_eq (off := 7) (tgt := 81) (by decide +kernel) (by decide) (fun c18 => ?_) (fun c18 => ?_)
        · replace h := jpos c18 h
          refine ev_seg (o := 10) (nL := 6) (q := 82) (xs := [(.iconst 0, 1, 0, 0, .int 0)]) (L' := [some (.ref 93), some (.int x1), some (.int x2), some (.int x3), some (.int x4), some (.int (40 + (8 * (q2.2.1 94 (Int32.toNatClampNeg 1)))))]) (st' := [.int 0, .int ((40 + (8 * (q2.2.1 94 (Int32.toNatClampNeg 1)))) + 2), .ref 94]) (w' := w7) (g := []) (K := []) (by decide +kernel) rfl rfl rfl rfl jk0 ?_
          refine ev_mask [true, false, false, false, true, true] ?_
          exact t_Model_site_j82 hG h
        · replace h := jneg c18 h
          refine ev_seg (o := 10) (nL := 6) (q := 82) (xs := [(.iconst 1, 1, 0, 0, .int 1), (.goto 4, 3, 0, 0, .null)]) (L' := [some (.ref 93), some (.int x1), some (.int x2), some (.int x3), some (.int x4), some (.int (40 + (8 * (q2.2.1 94 (Int32.toNatClampNeg 1)))))]) (st' := [.int 1, .int ((40 + (8 * (q2.2.1 94 (Int32.toNatClampNeg 1)))) + 2), .ref 94]) (w' := w7) (g := []) (K := []) (by decide +kernel) rfl rfl rfl rfl jk0 ?_
          refine ev_mask [true, false, false, false, true, true] ?_
          exact t_Model_site_j82 hG h
      · replace h := jpos c19 h
        refine ev_seg (o := 10) (nL := 6) (q := 30) (xs := [(.iconst (-1), 1, 0, 0, .int (-1))]) (L' := [some (.ref 93), some (.int x1), some (.int x2), some (.int x3), some (.int x4), none]) (st' := [.int (-1)]) (w' := q2.2) (g := []) (K := []) (by decide +kernel) rfl rfl rfl rfl jk0 ?_
        cases h
        exact ev_iret (by decide +kernel) rfl rfl rfl rfl
def f_Model_road (x1 : Int32) (x2 : Int32) (x3 : Int32) (w : jW) : Option (Int32 × jW) :=
  Option.bind (f_Model_isSite x1 w) fun q1 =>
  if q1.1 = 0 then
    some ((-1), q1.2)
  else
    Option.bind (f_Model_isSite x2 q1.2) fun q2 =>
    if q2.1 = 0 then
      some ((-1), q2.2)
    else
      if x1 = x2 then
        some ((-1), q2.2)
      else
        Option.bind (f_Model_siteAt x1 0 q2.2) fun q3 =>
        Option.bind (f_Model_siteAt x2 0 q3.2) fun q4 =>
        if q3.1 = q4.1 then
          Option.bind (f_Model_isIn x3 1 60 q4.2) fun q5 =>
          if q5.1 = 0 then
            some ((-1), q5.2)
          else
            if jal [jin 2 21000] = true then
            if (q5.2.1 94 (Int32.toNatClampNeg 2)) = 30 then
              some ((-1), q5.2)
            else
              if jal [jin (120 + (4 * (q5.2.1 94 (Int32.toNatClampNeg 2)))) 21000, jin 2 21000] = true then
              jlw ((jup q5.2.1 94 (Int32.toNatClampNeg (120 + (4 * (q5.2.1 94 (Int32.toNatClampNeg 2))))) x1), q5.2.2) fun w8 =>
              if jal [jin ((120 + (4 * (q5.2.1 94 (Int32.toNatClampNeg 2)))) + 1) 21000] = true then
              jlw ((jup w8.1 94 (Int32.toNatClampNeg ((120 + (4 * (q5.2.1 94 (Int32.toNatClampNeg 2)))) + 1)) x2), w8.2) fun w10 =>
              if jal [jin ((120 + (4 * (q5.2.1 94 (Int32.toNatClampNeg 2)))) + 2) 21000] = true then
              jlw ((jup w10.1 94 (Int32.toNatClampNeg ((120 + (4 * (q5.2.1 94 (Int32.toNatClampNeg 2)))) + 2)) x3), w10.2) fun w12 =>
              if jal [jin 2 21000, jin 2 21000] = true then
              jlw ((jup w12.1 94 (Int32.toNatClampNeg 2) ((w12.1 94 (Int32.toNatClampNeg 2)) + 1)), w12.2) fun w14 =>
              if jal [jin 2 21000] = true then
              some (((w14.1 94 (Int32.toNatClampNeg 2)) - 1), w14)
              else none else none else none else none else none
            else none
        else
          some ((-1), q4.2)
set_option maxRecDepth 20000 in
theorem e_Model_road {l : Launch} {G : jG} (hG : jX G) {x1 : Int32} {x2 : Int32} {x3 : Int32} {w : jW} {z : (Int32 × jW)} (h : f_Model_road x1 x2 x3 w = some z) : Ct l G y_Model_road d_Model_road 0 0 [.ref 93, .int x1, .int x2, .int x3] jR0 w (some (.int z.1), jR0, z.2) := by
  rw [f_Model_road] at h
  refine Ct.of (L := [some (.ref 93), some (.int x1), some (.int x2), some (.int x3), none]) (by decide) (Nat.le_of_ble_eq_true rfl) rfl ?_
  refine ev_seg (o := 10) (nL := 5) (q := 2) (xs := [(.aload_n 0, 1, 0, 0, .null), (.iload_n 1, 1, 1, 0, .null)]) (L' := [some (.ref 93), some (.int x1), some (.int x2), some (.int x3), none]) (st' := [.int x1, .ref 93]) (w' := w) (g := []) (K := []) (by decide +kernel) rfl rfl rfl rfl jk0 ?_
  obtain ⟨q1, hq1, h⟩ := jbe h
  refine ev_callV (ci := 10) (a := 93) (y2 := y_Model_isSite) (o := 10) (idx := 50) (d2 := d_Model_isSite) (n := 1) (mc2 := 0) (ms2 := 0) (As := [.int x1]) (st := []) (res2 := (some (.int q1.1), jR0, q1.2)) (by decide +kernel) rfl lk_10_50 mo_Model_isSite mv_Model_isSite ⟨Nat.le_of_ble_eq_true rfl, Nat.le_of_ble_eq_true rfl⟩ rfl rfl kz_93 (by decide) rfl (Nat.le_of_ble_eq_true rfl) ⟨Nat.le_refl _, Nat.le_refl _⟩ hG (e_Model_isSite hG hq1) ?_
  refine ev_if_eq (off := 52) (tgt := 57) (by decide +kernel) (by decide) (fun c21 => ?_) (fun c21 => ?_)
  · replace h := jpos c21 h
    refine ev_seg (o := 10) (nL := 5) (q := 58) (xs := [(.iconst (-1), 1, 0, 0, .int (-1))]) (L' := [some (.ref 93), some (.int x1), some (.int x2), some (.int x3), none]) (st' := [.int (-1)]) (w' := q1.2) (g := []) (K := []) (by decide +kernel) rfl rfl rfl rfl jk0 ?_
    cases h
    exact ev_iret (by decide +kernel) rfl rfl rfl rfl
  · replace h := jneg c21 h
    refine ev_seg (o := 10) (nL := 5) (q := 10) (xs := [(.aload_n 0, 1, 0, 0, .null), (.iload_n 2, 1, 2, 0, .null)]) (L' := [some (.ref 93), some (.int x1), some (.int x2), some (.int x3), none]) (st' := [.int x2, .ref 93]) (w' := q1.2) (g := []) (K := []) (by decide +kernel) rfl rfl rfl rfl jk0 ?_
    obtain ⟨q2, hq2, h⟩ := jbe h
    refine ev_callV (ci := 10) (a := 93) (y2 := y_Model_isSite) (o := 10) (idx := 50) (d2 := d_Model_isSite) (n := 1) (mc2 := 0) (ms2 := 0) (As := [.int x2]) (st := []) (res2 := (some (.int q2.1), jR0, q2.2)) (by decide +kernel) rfl lk_10_50 mo_Model_isSite mv_Model_isSite ⟨Nat.le_of_ble_eq_true rfl, Nat.le_of_ble_eq_true rfl⟩ rfl rfl kz_93 (by decide) rfl (Nat.le_of_ble_eq_true rfl) ⟨Nat.le_refl _, Nat.le_refl _⟩ hG (e_Model_isSite hG hq2) ?_
    refine ev_if_eq (off := 44) (tgt := 57) (by decide +kernel) (by decide) (fun c20 => ?_) (fun c20 => ?_)
    · replace h := jpos c20 h
      refine ev_seg (o := 10) (nL := 5) (q := 58) (xs := [(.iconst (-1), 1, 0, 0, .int (-1))]) (L' := [some (.ref 93), some (.int x1), some (.int x2), some (.int x3), none]) (st' := [.int (-1)]) (w' := q2.2) (g := []) (K := []) (by decide +kernel) rfl rfl rfl rfl jk0 ?_
      cases h
      exact ev_iret (by decide +kernel) rfl rfl rfl rfl
    · replace h := jneg c20 h
      refine ev_seg (o := 10) (nL := 5) (q := 18) (xs := [(.iload_n 1, 1, 1, 0, .null), (.iload_n 2, 1, 2, 0, .null)]) (L' := [some (.ref 93), some (.int x1), some (.int x2), some (.int x3), none]) (st' := [.int x2, .int x1]) (w' := q2.2) (g := []) (K := []) (by decide +kernel) rfl rfl rfl rfl jk0 ?_
      refine ev_icmp_eq (off := 39) (tgt := 57) (by decide +kernel) (by decide) (fun c19 => ?_) (fun c19 => ?_)
      · replace h := jpos c19 h
        refine ev_seg (o := 10) (nL := 5) (q := 58) (xs := [(.iconst (-1), 1, 0, 0, .int (-1))]) (L' := [some (.ref 93), some (.int x1), some (.int x2), some (.int x3), none]) (st' := [.int (-1)]) (w' := q2.2) (g := []) (K := []) (by decide +kernel) rfl rfl rfl rfl jk0 ?_
        cases h
        exact ev_iret (by decide +kernel) rfl rfl rfl rfl
      · replace h := jneg c19 h
        refine ev_seg (o := 10) (nL := 5) (q := 24) (xs := [(.aload_n 0, 1, 0, 0, .null), (.iload_n 1, 1, 1, 0, .null), (.iconst 0, 1, 0, 0, .int 0)]) (L' := [some (.ref 93), some (.int x1), some (.int x2), some (.int x3), none]) (st' := [.int 0, .int x1, .ref 93]) (w' := q2.2) (g := []) (K := []) (by decide +kernel) rfl rfl rfl rfl jk0 ?_
        obtain ⟨q3, hq3, h⟩ := jbe h
        refine ev_callV (ci := 10) (a := 93) (y2 := y_Model_siteAt) (o := 10) (idx := 54) (d2 := d_Model_siteAt) (n := 2) (mc2 := 0) (ms2 := 0) (As := [.int x1, .int 0]) (st := []) (res2 := (some (.int q3.1), jR0, q3.2)) (by decide +kernel) rfl lk_10_54 mo_Model_siteAt mv_Model_siteAt ⟨Nat.le_of_ble_eq_true rfl, Nat.le_of_ble_eq_true rfl⟩ rfl rfl kz_93 (by decide) rfl (Nat.le_of_ble_eq_true rfl) ⟨Nat.le_refl _, Nat.le_refl _⟩ hG (e_Model_siteAt hG hq3) ?_
        refine ev_seg (o := 10) (nL := 5) (q := 30) (xs := [(.aload_n 0, 1, 0, 0, .null), (.iload_n 2, 1, 2, 0, .null), (.iconst 0, 1, 0, 0, .int 0)]) (L' := [some (.ref 93), some (.int x1), some (.int x2), some (.int x3), none]) (st' := [.int 0, .int x2, .ref 93, .int q3.1]) (w' := q3.2) (g := []) (K := []) (by decide +kernel) rfl rfl rfl rfl jk0 ?_
        obtain ⟨q4, hq4, h⟩ := jbe h
        refine ev_callV (ci := 10) (a := 93) (y2 := y_Model_siteAt) (o := 10) (idx := 54) (d2 := d_Model_siteAt) (n := 2) (mc2 := 0) (ms2 := 0) (As := [.int x2, .int 0]) (st := [.int q3.1]) (res2 := (some (.int q4.1), jR0, q4.2)) (by decide +kernel) rfl lk_10_54 mo_Model_siteAt mv_Model_siteAt ⟨Nat.le_of_ble_eq_true rfl, Nat.le_of_ble_eq_true rfl⟩ rfl rfl kz_93 (by decide) rfl (Nat.le_of_ble_eq_true rfl) ⟨Nat.le_refl _, Nat.le_refl _⟩ hG (e_Model_siteAt hG hq4) ?_
        refine ev_icmp_ne (off := 24) (tgt := 57) (by decide +kernel) (by decide) (fun c18 => ?_) (fun c18 => ?_)
        · replace h := jneg c18 h
          refine ev_seg (o := 10) (nL := 5) (q := 58) (xs := [(.iconst (-1), 1, 0, 0, .int (-1))]) (L' := [some (.ref 93), some (.int x1), some (.int x2), some (.int x3), none]) (st' := [.int (-1)]) (w' := q4.2) (g := []) (K := []) (by decide +kernel) rfl rfl rfl rfl jk0 ?_
          cases h
          exact ev_iret (by decide +kernel) rfl rfl rfl rfl
        · replace h := jpos c18 h
          refine ev_seg (o := 10) (nL := 5) (q := 40) (xs := [(.iload_n 3, 1, 3, 0, .null), (.iconst 1, 1, 0, 0, .int 1), (.bipush 60, 2, 0, 0, .int 60)]) (L' := [some (.ref 93), some (.int x1), some (.int x2), some (.int x3), none]) (st' := [.int 60, .int 1, .int x3]) (w' := q4.2) (g := []) (K := []) (by decide +kernel) rfl rfl rfl rfl jk0 ?_
          obtain ⟨q5, hq5, h⟩ := jbe h
          refine ev_callS (y2 := y_Model_isIn) (o := 10) (idx := 46) (d2 := d_Model_isIn) (n := 3) (mc2 := 0) (ms2 := 0) (As := [.int x3, .int 1, .int 60]) (st := []) (res2 := (some (.int q5.1), jR0, q5.2)) (by decide +kernel) rfl lk_10_46 mo_Model_isIn ms_Model_isIn ⟨Nat.le_of_ble_eq_true rfl, Nat.le_of_ble_eq_true rfl⟩ rfl rfl (Nat.le_of_ble_eq_true rfl) ⟨Nat.le_refl _, Nat.le_refl _⟩ hG (e_Model_isIn hG hq5) ?_
          refine ev_if_eq (off := 14) (tgt := 57) (by decide +kernel) (by decide) (fun c17 => ?_) (fun c17 => ?_)
          · replace h := jpos c17 h
            refine ev_seg (o := 10) (nL := 5) (q := 58) (xs := [(.iconst (-1), 1, 0, 0, .int (-1))]) (L' := [some (.ref 93), some (.int x1), some (.int x2), some (.int x3), none]) (st' := [.int (-1)]) (w' := q5.2) (g := []) (K := []) (by decide +kernel) rfl rfl rfl rfl jk0 ?_
            cases h
            exact ev_iret (by decide +kernel) rfl rfl rfl rfl
          · replace h := jneg c17 h
            obtain ⟨hg6, h⟩ := jgd h
            refine ev_seg (o := 10) (nL := 5) (q := 54) (xs := [(.aload_n 0, 1, 0, 0, .null), (.getfield 7, 3, 10, 0, .ref 20), (.iconst 2, 1, 0, 0, .int 2), (.iaload, 1, 0, 0, .null), (.bipush 30, 2, 0, 0, .int 30)]) (L' := [some (.ref 93), some (.int x1), some (.int x2), some (.int x3), none]) (st' := [.int 30, .int (q5.2.1 94 (Int32.toNatClampNeg 2))]) (w' := q5.2) (g := [jin 2 21000]) (K := [(94, 20), (94, 20), (93, 10)]) (by decide +kernel) rfl rfl rfl hg6 (jk1 kz_94 (jk1 kz_94 (jk1 kz_93 jk0))) ?_
            refine ev_icmp_ne (off := 5) (tgt := 59) (by decide +kernel) (by decide) (fun c16 => ?_) (fun c16 => ?_)
            · replace h := jneg c16 h
              obtain ⟨hg7, h⟩ := jgd h
              refine ev_seg (o := 10) (nL := 5) (q := 80) (xs := [(.bipush 120, 2, 0, 0, .int 120), (.iconst 4, 1, 0, 0, .int 4), (.aload_n 0, 1, 0, 0, .null), (.getfield 7, 3, 10, 0, .ref 20), (.iconst 2, 1, 0, 0, .int 2), (.iaload, 1, 0, 0, .null), (.imul, 1, 0, 0, .null), (.iadd, 1, 0, 0, .null), (.istore 4, 2, 4, 0, .null), (.aload_n 0, 1, 0, 0, .null), (.getfield 7, 3, 10, 0, .ref 20), (.iload 4, 2, 4, 0, .null), (.iload_n 1, 1, 1, 0, .null), (.iastore, 1, 0, 0, .null)]) (L' := [some (.ref 93), some (.int x1), some (.int x2), some (.int x3), some (.int (120 + (4 * (q5.2.1 94 (Int32.toNatClampNeg 2)))))]) (st' := []) (w' := ((jup q5.2.1 94 (Int32.toNatClampNeg (120 + (4 * (q5.2.1 94 (Int32.toNatClampNeg 2))))) x1), q5.2.2)) (g := [jin (120 + (4 * (q5.2.1 94 (Int32.toNatClampNeg 2)))) 21000, jin 2 21000]) (K := [(94, 20), (94, 20), (93, 10), (94, 20), (94, 20), (93, 10)]) (by decide +kernel) rfl rfl rfl hg7 (jk1 kz_94 (jk1 kz_94 (jk1 kz_93 (jk1 kz_94 (jk1 kz_94 (jk1 kz_93 jk0)))))) ?_
              refine jlw_c (P := fun w8 => Ev l G (jrm d_Model_road 0 0) y_Model_road (some (.int z.1), jR0, z.2) 0 0 0 0 80 [some (.ref 93), some (.int x1), some (.int x2), some (.int x3), some (.int (120 + (4 * (q5.2.1 94 (Int32.toNatClampNeg 2)))))] [] jR0 w8) h fun w8 h => ?_
              obtain ⟨hg9, h⟩ := jgd h
              refine ev_seg (o := 10) (nL := 5) (q := 90) (xs := [(.aload_n 0, 1, 0, 0, .null), (.getfield 7, 3, 10, 0, .ref 20), (.iload 4, 2, 4, 0, .null), (.iconst 1, 1, 0, 0, .int 1), (.iadd, 1, 0, 0, .null), (.iload_n 2, 1, 2, 0, .null), (.iastore, 1, 0, 0, .null)]) (L' := [some (.ref 93), some (.int x1), some (.int x2), some (.int x3), some (.int (120 + (4 * (q5.2.1 94 (Int32.toNatClampNeg 2)))))]) (st' := []) (w' := ((jup w8.1 94 (Int32.toNatClampNeg ((120 + (4 * (q5.2.1 94 (Int32.toNatClampNeg 2)))) + 1)) x2), w8.2)) (g := [jin ((120 + (4 * (q5.2.1 94 (Int32.toNatClampNeg 2)))) + 1) 21000]) (K := [(94, 20), (94, 20), (93, 10)]) (by decide +kernel) rfl rfl rfl hg9 (jk1 kz_94 (jk1 kz_94 (jk1 kz_93 jk0))) ?_
              refine jlw_c (P := fun w10 => Ev l G (jrm d_Model_road 0 0) y_Model_road (some (.int z.1), jR0, z.2) 0 0 0 0 90 [some (.ref 93), some (.int x1), some (.int x2), some (.int x3), some (.int (120 + (4 * (q5.2.1 94 (Int32.toNatClampNeg 2)))))] [] jR0 w10) h fun w10 h => ?_
              obtain ⟨hg11, h⟩ := jgd h
              refine ev_seg (o := 10) (nL := 5) (q := 100) (xs := [(.aload_n 0, 1, 0, 0, .null), (.getfield 7, 3, 10, 0, .ref 20), (.iload 4, 2, 4, 0, .null), (.iconst 2, 1, 0, 0, .int 2), (.iadd, 1, 0, 0, .null), (.iload_n 3, 1, 3, 0, .null), (.iastore, 1, 0, 0, .null)]) (L' := [some (.ref 93), some (.int x1), some (.int x2), some (.int x3), some (.int (120 + (4 * (q5.2.1 94 (Int32.toNatClampNeg 2)))))]) (st' := []) (w' := ((jup w10.1 94 (Int32.toNatClampNeg ((120 + (4 * (q5.2.1 94 (Int32.toNatClampNeg 2)))) + 2)) x3), w10.2)) (g := [jin ((120 + (4 * (q5.2.1 94 (Int32.toNatClampNeg 2)))) + 2) 21000]) (K := [(94, 20), (94, 20), (93, 10)]) (by decide +kernel) rfl rfl rfl hg11 (jk1 kz_94 (jk1 kz_94 (jk1 kz_93 jk0))) ?_
              refine jlw_c (P := fun w12 => Ev l G (jrm d_Model_road 0 0) y_Model_road (some (.int z.1), jR0, z.2) 0 0 0 0 100 [some (.ref 93), some (.int x1), some (.int x2), some (.int x3), some (.int (120 + (4 * (q5.2.1 94 (Int32.toNatClampNeg 2)))))] [] jR0 w12) h fun w12 h => ?_
              obtain ⟨hg13, h⟩ := jgd h
              refine ev_seg (o := 10) (nL := 5) (q := 110) (xs := [(.aload_n 0, 1, 0, 0, .null), (.getfield 7, 3, 10, 0, .ref 20), (.iconst 2, 1, 0, 0, .int 2), (.dup2, 1, 0, 0, .null), (.iaload, 1, 0, 0, .null), (.iconst 1, 1, 0, 0, .int 1), (.iadd, 1, 0, 0, .null), (.iastore, 1, 0, 0, .null)]) (L' := [some (.ref 93), some (.int x1), some (.int x2), some (.int x3), some (.int (120 + (4 * (q5.2.1 94 (Int32.toNatClampNeg 2)))))]) (st' := []) (w' := ((jup w12.1 94 (Int32.toNatClampNeg 2) ((w12.1 94 (Int32.toNatClampNeg 2)) + 1)), w12.2)) (g := [jin 2 21000, jin 2 21000]) (K := [(94, 20), (94, 20), (94, 20), (93, 10)]) (by decide +kernel) rfl rfl rfl hg13 (jk1 kz_94 (jk1 kz_94 (jk1 kz_94 (jk1 kz_93 jk0)))) ?_
              refine jlw_c (P := fun w14 => Ev l G (jrm d_Model_road 0 0) y_Model_road (some (.int z.1), jR0, z.2) 0 0 0 0 110 [some (.ref 93), some (.int x1), some (.int x2), some (.int x3), some (.int (120 + (4 * (q5.2.1 94 (Int32.toNatClampNeg 2)))))] [] jR0 w14) h fun w14 h => ?_
              obtain ⟨hg15, h⟩ := jgd h
              refine ev_seg (o := 10) (nL := 5) (q := 118) (xs := [(.aload_n 0, 1, 0, 0, .null), (.getfield 7, 3, 10, 0, .ref 20), (.iconst 2, 1, 0, 0, .int 2), (.iaload, 1, 0, 0, .null), (.iconst 1, 1, 0, 0, .int 1), (.isub, 1, 0, 0, .null)]) (L' := [some (.ref 93), some (.int x1), some (.int x2), some (.int x3), some (.int (120 + (4 * (q5.2.1 94 (Int32.toNatClampNeg 2)))))]) (st' := [.int ((w14.1 94 (Int32.toNatClampNeg 2)) - 1)]) (w' := w14) (g := [jin 2 21000]) (K := [(94, 20), (94, 20), (93, 10)]) (by decide +kernel) rfl rfl rfl hg15 (jk1 kz_94 (jk1 kz_94 (jk1 kz_93 jk0))) ?_
              cases h
              exact ev_iret (by decide +kernel) rfl rfl rfl rfl
            · replace h := jpos c16 h
              refine ev_seg (o := 10) (nL := 5) (q := 58) (xs := [(.iconst (-1), 1, 0, 0, .int (-1))]) (L' := [some (.ref 93), some (.int x1), some (.int x2), some (.int x3), none]) (st' := [.int (-1)]) (w' := q5.2) (g := []) (K := []) (by decide +kernel) rfl rfl rfl rfl jk0 ?_
              cases h
              exact ev_iret (by decide +kernel) rfl rfl rfl rfl
def f_Model_wayOf_j136 (k33 : Int32 → Int32 → jW → Option (Int32 × jW)) (k42 : Int32 → Int32 → Int32 → jW → Option (Int32 × jW)) (x2 : Int32) (x3 : Int32) (x4 : Int32) (x5 : Int32) (x6 : Int32) (x7 : Int32) (w : jW) : Option (Int32 × jW) :=
  if jal [jin x5 10, jin x6 10] = true then
  if ((w.1 96 (Int32.toNatClampNeg x6)) + x7) < (w.1 96 (Int32.toNatClampNeg x5)) then
    if jal [jin x5 10, jin x6 10] = true then
    jlw ((jup w.1 96 (Int32.toNatClampNeg x5) ((w.1 96 (Int32.toNatClampNeg x6)) + x7)), w.2) fun w8 =>
    k42 x2 x3 (x4 + 1) w8
    else none
  else
    k42 x2 x3 (x4 + 1) w
  else none
set_option maxRecDepth 20000 in
theorem t_Model_wayOf_j136 {l : Launch} {G : jG} (hG : jX G) {k33 : Int32 → Int32 → jW → Option (Int32 × jW)} {k42 : Int32 → Int32 → Int32 → jW → Option (Int32 × jW)} (hk33 : ∀ (x2 : Int32) (x3 : Int32) (w : jW) (z : (Int32 × jW)), k33 x2 x3 w = some z → Ev l G (jrm d_Model_wayOf 0 0) y_Model_wayOf (some (.int z.1), jR0, z.2) 0 0 0 0 33 [some (.ref 93), none, some (.int x2), some (.int x3), none, none, none, none] [] jR0 w) (hk42 : ∀ (x2 : Int32) (x3 : Int32) (x4 : Int32) (w : jW) (z : (Int32 × jW)), k42 x2 x3 x4 w = some z → Ev l G (jrm d_Model_wayOf 0 0) y_Model_wayOf (some (.int z.1), jR0, z.2) 0 0 0 0 42 [some (.ref 93), none, some (.int x2), some (.int x3), some (.int x4), none, none, none] [] jR0 w) {x2 : Int32} {x3 : Int32} {x4 : Int32} {x5 : Int32} {x6 : Int32} {x7 : Int32} {w : jW} {z : (Int32 × jW)} (h : f_Model_wayOf_j136 k33 k42 x2 x3 x4 x5 x6 x7 w = some z) : Ev l G (jrm d_Model_wayOf 0 0) y_Model_wayOf (some (.int z.1), jR0, z.2) 0 0 0 0 136 [some (.ref 93), none, some (.int x2), some (.int x3), some (.int x4), some (.int x5), some (.int x6), some (.int x7)] [] jR0 w := by
  rw [f_Model_wayOf_j136] at h
  obtain ⟨hg6, h⟩ := jgd h
  refine ev_seg (o := 10) (nL := 8) (q := 153) (xs := [(.aload_n 0, 1, 0, 0, .null), (.getfield 16, 3, 10, 2, .ref 20), (.iload 6, 2, 6, 0, .null), (.iaload, 1, 0, 0, .null), (.iload 7, 2, 7, 0, .null), (.iadd, 1, 0, 0, .null), (.aload_n 0, 1, 0, 0, .null), (.getfield 16, 3, 10, 2, .ref 20), (.iload 5, 2, 5, 0, .null), (.iaload, 1, 0, 0, .null)]) (L' := [some (.ref 93), none, some (.int x2), some (.int x3), some (.int x4), some (.int x5), some (.int x6), some (.int x7)]) (st' := [.int (w.1 96 (Int32.toNatClampNeg x5)), .int ((w.1 96 (Int32.toNatClampNeg x6)) + x7)]) (w' := w) (g := [jin x5 10, jin x6 10]) (K := [(96, 20), (96, 20), (93, 10), (96, 20), (96, 20), (93, 10)]) (by decide +kernel) rfl rfl rfl hg6 (jk1 kz_96 (jk1 kz_96 (jk1 kz_93 (jk1 kz_96 (jk1 kz_96 (jk1 kz_93 jk0)))))) ?_
  refine ev_icmp_ge (off := 20) (tgt := 173) (by decide +kernel) (by decide) (fun c9 => ?_) (fun c9 => ?_)
  · replace h := jneg c9 h
    refine ev_seg (o := 10) (nL := 8) (q := 42) (xs := [(.iinc 4 1, 3, 4, 0, .int 1), (.goto (-134), 3, 0, 0, .null)]) (L' := [some (.ref 93), none, some (.int x2), some (.int x3), some (.int (x4 + 1)), some (.int x5), some (.int x6), some (.int x7)]) (st' := []) (w' := w) (g := []) (K := []) (by decide +kernel) rfl rfl rfl rfl jk0 ?_
    refine ev_mask [true, false, true, true, true, false, false, false] ?_
    exact hk42 _ _ _ _ _ h
  · replace h := jpos c9 h
    obtain ⟨hg7, h⟩ := jgd h
    refine ev_seg (o := 10) (nL := 8) (q := 173) (xs := [(.aload_n 0, 1, 0, 0, .null), (.getfield 16, 3, 10, 2, .ref 20), (.iload 5, 2, 5, 0, .null), (.aload_n 0, 1, 0, 0, .null), (.getfield 16, 3, 10, 2, .ref 20), (.iload 6, 2, 6, 0, .null), (.iaload, 1, 0, 0, .null), (.iload 7, 2, 7, 0, .null), (.iadd, 1, 0, 0, .null), (.iastore, 1, 0, 0, .null)]) (L' := [some (.ref 93), none, some (.int x2), some (.int x3), some (.int x4), some (.int x5), some (.int x6), some (.int x7)]) (st' := []) (w' := ((jup w.1 96 (Int32.toNatClampNeg x5) ((w.1 96 (Int32.toNatClampNeg x6)) + x7)), w.2)) (g := [jin x5 10, jin x6 10]) (K := [(96, 20), (96, 20), (96, 20), (93, 10), (96, 20), (93, 10)]) (by decide +kernel) rfl rfl rfl hg7 (jk1 kz_96 (jk1 kz_96 (jk1 kz_96 (jk1 kz_93 (jk1 kz_96 (jk1 kz_93 jk0)))))) ?_
    refine jlw_c (P := fun w8 => Ev l G (jrm d_Model_wayOf 0 0) y_Model_wayOf (some (.int z.1), jR0, z.2) 0 0 0 0 173 [some (.ref 93), none, some (.int x2), some (.int x3), some (.int x4), some (.int x5), some (.int x6), some (.int x7)] [] jR0 w8) h fun w8 h => ?_
    refine ev_seg (o := 10) (nL := 8) (q := 42) (xs := [(.iinc 4 1, 3, 4, 0, .int 1), (.goto (-134), 3, 0, 0, .null)]) (L' := [some (.ref 93), none, some (.int x2), some (.int x3), some (.int (x4 + 1)), some (.int x5), some (.int x6), some (.int x7)]) (st' := []) (w' := w8) (g := []) (K := []) (by decide +kernel) rfl rfl rfl rfl jk0 ?_
    refine ev_mask [true, false, true, true, true, false, false, false] ?_
    exact hk42 _ _ _ _ _ h
def f_Model_wayOf_h42 (k33 : Int32 → Int32 → jW → Option (Int32 × jW)) : Nat → Int32 → Int32 → Int32 → jW → Option (Int32 × jW)
  | 0, _, _, _, _ => none
  | n + 1, x2, x3, x4, w =>
  if jal [jin 2 21000] = true then
  if x4 < (w.1 94 (Int32.toNatClampNeg 2)) then
    if jal [jin (w.1 94 (Int32.toNatClampNeg ((120 + (4 * x4)) + 1))) 10, jin (w.1 94 (Int32.toNatClampNeg (120 + (4 * x4)))) 10, jin ((120 + (4 * x4)) + 2) 21000, jin ((120 + (4 * x4)) + 1) 21000, jin (120 + (4 * x4)) 21000] = true then
    if ((w.1 96 (Int32.toNatClampNeg (w.1 94 (Int32.toNatClampNeg (120 + (4 * x4)))))) + (w.1 94 (Int32.toNatClampNeg ((120 + (4 * x4)) + 2)))) < (w.1 96 (Int32.toNatClampNeg (w.1 94 (Int32.toNatClampNeg ((120 + (4 * x4)) + 1))))) then
      if jal [jin (w.1 94 (Int32.toNatClampNeg ((120 + (4 * x4)) + 1))) 10, jin (w.1 94 (Int32.toNatClampNeg (120 + (4 * x4)))) 10] = true then
      jlw ((jup w.1 96 (Int32.toNatClampNeg (w.1 94 (Int32.toNatClampNeg ((120 + (4 * x4)) + 1)))) ((w.1 96 (Int32.toNatClampNeg (w.1 94 (Int32.toNatClampNeg (120 + (4 * x4)))))) + (w.1 94 (Int32.toNatClampNeg ((120 + (4 * x4)) + 2))))), w.2) fun w11 =>
      f_Model_wayOf_j136 k33 (f_Model_wayOf_h42 k33 n) x2 x3 x4 (w.1 94 (Int32.toNatClampNeg (120 + (4 * x4)))) (w.1 94 (Int32.toNatClampNeg ((120 + (4 * x4)) + 1))) (w.1 94 (Int32.toNatClampNeg ((120 + (4 * x4)) + 2))) w11
      else none
    else
      f_Model_wayOf_j136 k33 (f_Model_wayOf_h42 k33 n) x2 x3 x4 (w.1 94 (Int32.toNatClampNeg (120 + (4 * x4)))) (w.1 94 (Int32.toNatClampNeg ((120 + (4 * x4)) + 1))) (w.1 94 (Int32.toNatClampNeg ((120 + (4 * x4)) + 2))) w
    else none
  else
    k33 x2 (x3 + 1) w
  else none
set_option maxRecDepth 20000 in
theorem t_Model_wayOf_h42 {l : Launch} {G : jG} (hG : jX G) {k33 : Int32 → Int32 → jW → Option (Int32 × jW)} (hk33 : ∀ (x2 : Int32) (x3 : Int32) (w : jW) (z : (Int32 × jW)), k33 x2 x3 w = some z → Ev l G (jrm d_Model_wayOf 0 0) y_Model_wayOf (some (.int z.1), jR0, z.2) 0 0 0 0 33 [some (.ref 93), none, some (.int x2), some (.int x3), none, none, none, none] [] jR0 w) : ∀ (n : Nat) (x2 : Int32) (x3 : Int32) (x4 : Int32) (w : jW) (z : (Int32 × jW)), f_Model_wayOf_h42 k33 n x2 x3 x4 w = some z → Ev l G (jrm d_Model_wayOf 0 0) y_Model_wayOf (some (.int z.1), jR0, z.2) 0 0 0 0 42 [some (.ref 93), none, some (.int x2), some (.int x3), some (.int x4), none, none, none] [] jR0 w := by
  intro n
  induction n with
  | zero => intro x2 x3 x4 w z h; simp only [f_Model_wayOf_h42] at h; cases h
  | succ n ih =>
    intro x2 x3 x4 w z h
    rw [f_Model_wayOf_h42] at h
    obtain ⟨hg4, h⟩ := jgd h
    refine ev_seg (o := 10) (nL := 8) (q := 50) (xs := [(.iload 4, 2, 4, 0, .null), (.aload_n 0, 1, 0, 0, .null), (.getfield 7, 3, 10, 0, .ref 20), (.iconst 2, 1, 0, 0, .int 2), (.iaload, 1, 0, 0, .null)]) (L' := [some (.ref 93), none, some (.int x2), some (.int x3), some (.int x4), none, none, none]) (st' := [.int (w.1 94 (Int32.toNatClampNeg 2)), .int x4]) (w' := w) (g := [jin 2 21000]) (K := [(94, 20), (94, 20), (93, 10)]) (by decide +kernel) rfl rfl rfl hg4 (jk1 kz_94 (jk1 kz_94 (jk1 kz_93 jk0))) ?_
    refine ev_icmp_ge (off := 129) (tgt := 179) (by decide +kernel) (by decide) (fun c13 => ?_) (fun c13 => ?_)
    · replace h := jneg c13 h
      refine ev_seg (o := 10) (nL := 8) (q := 33) (xs := [(.iinc 3 1, 3, 3, 0, .int 1), (.goto (-149), 3, 0, 0, .null)]) (L' := [some (.ref 93), none, some (.int x2), some (.int (x3 + 1)), some (.int x4), none, none, none]) (st' := []) (w' := w) (g := []) (K := []) (by decide +kernel) rfl rfl rfl rfl jk0 ?_
      refine ev_mask [true, false, true, true, false, false, false, false] ?_
      exact hk33 _ _ _ _ h
    · replace h := jpos c13 h
      obtain ⟨hg5, h⟩ := jgd h
      refine ev_seg (o := 10) (nL := 8) (q := 116) (xs := [(.aload_n 0, 1, 0, 0, .null), (.getfield 7, 3, 10, 0, .ref 20), (.bipush 120, 2, 0, 0, .int 120), (.iconst 4, 1, 0, 0, .int 4), (.iload 4, 2, 4, 0, .null), (.imul, 1, 0, 0, .null), (.iadd, 1, 0, 0, .null), (.iaload, 1, 0, 0, .null), (.istore 5, 2, 5, 0, .null), (.aload_n 0, 1, 0, 0, .null), (.getfield 7, 3, 10, 0, .ref 20), (.bipush 120, 2, 0, 0, .int 120), (.iconst 4, 1, 0, 0, .int 4), (.iload 4, 2, 4, 0, .null), (.imul, 1, 0, 0, .null), (.iadd, 1, 0, 0, .null), (.iconst 1, 1, 0, 0, .int 1), (.iadd, 1, 0, 0, .null), (.iaload, 1, 0, 0, .null), (.istore 6, 2, 6, 0, .null), (.aload_n 0, 1, 0, 0, .null), (.getfield 7, 3, 10, 0, .ref 20), (.bipush 120, 2, 0, 0, .int 120), (.iconst 4, 1, 0, 0, .int 4), (.iload 4, 2, 4, 0, .null), (.imul, 1, 0, 0, .null), (.iadd, 1, 0, 0, .null), (.iconst 2, 1, 0, 0, .int 2), (.iadd, 1, 0, 0, .null), (.iaload, 1, 0, 0, .null), (.istore 7, 2, 7, 0, .null), (.aload_n 0, 1, 0, 0, .null), (.getfield 16, 3, 10, 2, .ref 20), (.iload 5, 2, 5, 0, .null), (.iaload, 1, 0, 0, .null), (.iload 7, 2, 7, 0, .null), (.iadd, 1, 0, 0, .null), (.aload_n 0, 1, 0, 0, .null), (.getfield 16, 3, 10, 2, .ref 20), (.iload 6, 2, 6, 0, .null), (.iaload, 1, 0, 0, .null)]) (L' := [some (.ref 93), none, some (.int x2), some (.int x3), some (.int x4), some (.int (w.1 94 (Int32.toNatClampNeg (120 + (4 * x4))))), some (.int (w.1 94 (Int32.toNatClampNeg ((120 + (4 * x4)) + 1)))), some (.int (w.1 94 (Int32.toNatClampNeg ((120 + (4 * x4)) + 2))))]) (st' := [.int (w.1 96 (Int32.toNatClampNeg (w.1 94 (Int32.toNatClampNeg ((120 + (4 * x4)) + 1))))), .int ((w.1 96 (Int32.toNatClampNeg (w.1 94 (Int32.toNatClampNeg (120 + (4 * x4)))))) + (w.1 94 (Int32.toNatClampNeg ((120 + (4 * x4)) + 2))))]) (w' := w) (g := [jin (w.1 94 (Int32.toNatClampNeg ((120 + (4 * x4)) + 1))) 10, jin (w.1 94 (Int32.toNatClampNeg (120 + (4 * x4)))) 10, jin ((120 + (4 * x4)) + 2) 21000, jin ((120 + (4 * x4)) + 1) 21000, jin (120 + (4 * x4)) 21000]) (K := [(96, 20), (96, 20), (93, 10), (96, 20), (96, 20), (93, 10), (94, 20), (94, 20), (93, 10), (94, 20), (94, 20), (93, 10), (94, 20), (94, 20), (93, 10)]) (by decide +kernel) rfl rfl rfl hg5 (jk1 kz_96 (jk1 kz_96 (jk1 kz_93 (jk1 kz_96 (jk1 kz_96 (jk1 kz_93 (jk1 kz_94 (jk1 kz_94 (jk1 kz_93 (jk1 kz_94 (jk1 kz_94 (jk1 kz_93 (jk1 kz_94 (jk1 kz_94 (jk1 kz_93 jk0))))))))))))))) ?_
      refine ev_icmp_ge (off := 20) (tgt := 136) (by decide +kernel) (by decide) (fun c12 => ?_) (fun c12 => ?_)
      · replace h := jneg c12 h
        refine ev_mask [true, false, true, true, true, true, true, true] ?_
        exact t_Model_wayOf_j136 hG hk33 ih h
      · replace h := jpos c12 h
        obtain ⟨hg10, h⟩ := jgd h
        refine ev_seg (o := 10) (nL := 8) (q := 136) (xs := [(.aload_n 0, 1, 0, 0, .null), (.getfield 16, 3, 10, 2, .ref 20), (.iload 6, 2, 6, 0, .null), (.aload_n 0, 1, 0, 0, .null), (.getfield 16, 3, 10, 2, .ref 20), (.iload 5, 2, 5, 0, .null), (.iaload, 1, 0, 0, .null), (.iload 7, 2, 7, 0, .null), (.iadd, 1, 0, 0, .null), (.iastore, 1, 0, 0, .null)]) (L' := [some (.ref 93), none, some (.int x2), some (.int x3), some (.int x4), some (.int (w.1 94 (Int32.toNatClampNeg (120 + (4 * x4))))), some (.int (w.1 94 (Int32.toNatClampNeg ((120 + (4 * x4)) + 1)))), some (.int (w.1 94 (Int32.toNatClampNeg ((120 + (4 * x4)) + 2))))]) (st' := []) (w' := ((jup w.1 96 (Int32.toNatClampNeg (w.1 94 (Int32.toNatClampNeg ((120 + (4 * x4)) + 1)))) ((w.1 96 (Int32.toNatClampNeg (w.1 94 (Int32.toNatClampNeg (120 + (4 * x4)))))) + (w.1 94 (Int32.toNatClampNeg ((120 + (4 * x4)) + 2))))), w.2)) (g := [jin (w.1 94 (Int32.toNatClampNeg ((120 + (4 * x4)) + 1))) 10, jin (w.1 94 (Int32.toNatClampNeg (120 + (4 * x4)))) 10]) (K := [(96, 20), (96, 20), (96, 20), (93, 10), (96, 20), (93, 10)]) (by decide +kernel) rfl rfl rfl hg10 (jk1 kz_96 (jk1 kz_96 (jk1 kz_96 (jk1 kz_93 (jk1 kz_96 (jk1 kz_93 jk0)))))) ?_
        refine jlw_c (P := fun w11 => Ev l G (jrm d_Model_wayOf 0 0) y_Model_wayOf (some (.int z.1), jR0, z.2) 0 0 0 0 136 [some (.ref 93), none, some (.int x2), some (.int x3), some (.int x4), some (.int (w.1 94 (Int32.toNatClampNeg (120 + (4 * x4))))), some (.int (w.1 94 (Int32.toNatClampNeg ((120 + (4 * x4)) + 1)))), some (.int (w.1 94 (Int32.toNatClampNeg ((120 + (4 * x4)) + 2))))] [] jR0 w11) h fun w11 h => ?_
        refine ev_mask [true, false, true, true, true, true, true, true] ?_
        exact t_Model_wayOf_j136 hG hk33 ih h
def f_Model_wayOf_h33 : Nat → Int32 → Int32 → jW → Option (Int32 × jW)
  | 0, _, _, _ => none
  | n + 1, x2, x3, w =>
  if x3 < 10 then
    f_Model_wayOf_h42 (f_Model_wayOf_h33 n) jfu x2 x3 0 w
  else
    if jal [jin x2 10] = true then
    if (w.1 96 (Int32.toNatClampNeg x2)) < 1000000 then
      if jal [jin x2 10] = true then
      some ((w.1 96 (Int32.toNatClampNeg x2)), w)
      else none
    else
      some ((-1), w)
    else none
set_option maxRecDepth 20000 in
theorem t_Model_wayOf_h33 {l : Launch} {G : jG} (hG : jX G) : ∀ (n : Nat) (x2 : Int32) (x3 : Int32) (w : jW) (z : (Int32 × jW)), f_Model_wayOf_h33 n x2 x3 w = some z → Ev l G (jrm d_Model_wayOf 0 0) y_Model_wayOf (some (.int z.1), jR0, z.2) 0 0 0 0 33 [some (.ref 93), none, some (.int x2), some (.int x3), none, none, none, none] [] jR0 w := by
  intro n
  induction n with
  | zero => intro x2 x3 w z h; simp only [f_Model_wayOf_h33] at h; cases h
  | succ n ih =>
    intro x2 x3 w z h
    rw [f_Model_wayOf_h33] at h
    refine ev_seg (o := 10) (nL := 8) (q := 36) (xs := [(.iload_n 3, 1, 3, 0, .null), (.bipush 10, 2, 0, 0, .int 10)]) (L' := [some (.ref 93), none, some (.int x2), some (.int x3), none, none, none, none]) (st' := [.int 10, .int x3]) (w' := w) (g := []) (K := []) (by decide +kernel) rfl rfl rfl rfl jk0 ?_
    refine ev_icmp_ge (off := 149) (tgt := 185) (by decide +kernel) (by decide) (fun c14 => ?_) (fun c14 => ?_)
    · replace h := jneg c14 h
      obtain ⟨hg1, h⟩ := jgd h
      refine ev_seg (o := 10) (nL := 8) (q := 193) (xs := [(.aload_n 0, 1, 0, 0, .null), (.getfield 16, 3, 10, 2, .ref 20), (.iload_n 2, 1, 2, 0, .null), (.iaload, 1, 0, 0, .null), (.ldc 58, 2, 0, 0, .int 1000000)]) (L' := [some (.ref 93), none, some (.int x2), some (.int x3), none, none, none, none]) (st' := [.int 1000000, .int (w.1 96 (Int32.toNatClampNeg x2))]) (w' := w) (g := [jin x2 10]) (K := [(96, 20), (96, 20), (93, 10)]) (by decide +kernel) rfl rfl rfl hg1 (jk1 kz_96 (jk1 kz_96 (jk1 kz_93 jk0))) ?_
      refine ev_icmp_lt (off := 7) (tgt := 200) (by decide +kernel) (by decide) (fun c3 => ?_) (fun c3 => ?_)
      · replace h := jpos c3 h
        obtain ⟨hg2, h⟩ := jgd h
        refine ev_seg (o := 10) (nL := 8) (q := 206) (xs := [(.aload_n 0, 1, 0, 0, .null), (.getfield 16, 3, 10, 2, .ref 20), (.iload_n 2, 1, 2, 0, .null), (.iaload, 1, 0, 0, .null)]) (L' := [some (.ref 93), none, some (.int x2), some (.int x3), none, none, none, none]) (st' := [.int (w.1 96 (Int32.toNatClampNeg x2))]) (w' := w) (g := [jin x2 10]) (K := [(96, 20), (96, 20), (93, 10)]) (by decide +kernel) rfl rfl rfl hg2 (jk1 kz_96 (jk1 kz_96 (jk1 kz_93 jk0))) ?_
        cases h
        exact ev_iret (by decide +kernel) rfl rfl rfl rfl
      · replace h := jneg c3 h
        refine ev_seg (o := 10) (nL := 8) (q := 206) (xs := [(.iconst (-1), 1, 0, 0, .int (-1)), (.goto 9, 3, 0, 0, .null)]) (L' := [some (.ref 93), none, some (.int x2), some (.int x3), none, none, none, none]) (st' := [.int (-1)]) (w' := w) (g := []) (K := []) (by decide +kernel) rfl rfl rfl rfl jk0 ?_
        cases h
        exact ev_iret (by decide +kernel) rfl rfl rfl rfl
    · replace h := jpos c14 h
      refine ev_seg (o := 10) (nL := 8) (q := 42) (xs := [(.iconst 0, 1, 0, 0, .int 0), (.istore 4, 2, 4, 0, .null)]) (L' := [some (.ref 93), none, some (.int x2), some (.int x3), some (.int 0), none, none, none]) (st' := []) (w' := w) (g := []) (K := []) (by decide +kernel) rfl rfl rfl rfl jk0 ?_
      refine ev_mask [true, false, true, true, true, false, false, false] ?_
      exact t_Model_wayOf_h42 hG ih jfu _ _ _ _ _ h
def f_Model_wayOf_h2 : Nat → Int32 → Int32 → Int32 → jW → Option (Int32 × jW)
  | 0, _, _, _, _ => none
  | n + 1, x1, x2, x3, w =>
  if x3 < 10 then
    if x3 = x1 then
      if jal [jin x3 10] = true then
      jlw ((jup w.1 96 (Int32.toNatClampNeg x3) 0), w.2) fun w18 =>
      (f_Model_wayOf_h2 n) x1 x2 (x3 + 1) w18
      else none
    else
      if jal [jin x3 10] = true then
      jlw ((jup w.1 96 (Int32.toNatClampNeg x3) 1000000), w.2) fun w16 =>
      (f_Model_wayOf_h2 n) x1 x2 (x3 + 1) w16
      else none
  else
    f_Model_wayOf_h33 jfu x2 0 w
set_option maxRecDepth 20000 in
theorem t_Model_wayOf_h2 {l : Launch} {G : jG} (hG : jX G) : ∀ (n : Nat) (x1 : Int32) (x2 : Int32) (x3 : Int32) (w : jW) (z : (Int32 × jW)), f_Model_wayOf_h2 n x1 x2 x3 w = some z → Ev l G (jrm d_Model_wayOf 0 0) y_Model_wayOf (some (.int z.1), jR0, z.2) 0 0 0 0 2 [some (.ref 93), some (.int x1), some (.int x2), some (.int x3), none, none, none, none] [] jR0 w := by
  intro n
  induction n with
  | zero => intro x1 x2 x3 w z h; simp only [f_Model_wayOf_h2] at h; cases h
  | succ n ih =>
    intro x1 x2 x3 w z h
    rw [f_Model_wayOf_h2] at h
    refine ev_seg (o := 10) (nL := 8) (q := 5) (xs := [(.iload_n 3, 1, 3, 0, .null), (.bipush 10, 2, 0, 0, .int 10)]) (L' := [some (.ref 93), some (.int x1), some (.int x2), some (.int x3), none, none, none, none]) (st' := [.int 10, .int x3]) (w' := w) (g := []) (K := []) (by decide +kernel) rfl rfl rfl rfl jk0 ?_
    refine ev_icmp_ge (off := 26) (tgt := 31) (by decide +kernel) (by decide) (fun c20 => ?_) (fun c20 => ?_)
    · replace h := jneg c20 h
      refine ev_seg (o := 10) (nL := 8) (q := 33) (xs := [(.iconst 0, 1, 0, 0, .int 0), (.istore_n 3, 1, 3, 0, .null)]) (L' := [some (.ref 93), some (.int x1), some (.int x2), some (.int 0), none, none, none, none]) (st' := []) (w' := w) (g := []) (K := []) (by decide +kernel) rfl rfl rfl rfl jk0 ?_
      refine ev_mask [true, false, true, true, false, false, false, false] ?_
      exact t_Model_wayOf_h33 hG jfu _ _ _ _ h
    · replace h := jpos c20 h
      refine ev_seg (o := 10) (nL := 8) (q := 15) (xs := [(.aload_n 0, 1, 0, 0, .null), (.getfield 16, 3, 10, 2, .ref 20), (.iload_n 3, 1, 3, 0, .null), (.iload_n 3, 1, 3, 0, .null), (.iload_n 1, 1, 1, 0, .null)]) (L' := [some (.ref 93), some (.int x1), some (.int x2), some (.int x3), none, none, none, none]) (st' := [.int x1, .int x3, .int x3, .ref 96]) (w' := w) (g := []) (K := [(96, 20), (93, 10)]) (by decide +kernel) rfl rfl rfl rfl (jk1 kz_96 (jk1 kz_93 jk0)) ?_
      refine ev_icmp_ne (off := 7) (tgt := 22) (by decide +kernel) (by decide) (fun c19 => ?_) (fun c19 => ?_)
      · replace h := jneg c19 h
        obtain ⟨hg15, h⟩ := jgd h
        refine ev_seg (o := 10) (nL := 8) (q := 25) (xs := [(.ldc 58, 2, 0, 0, .int 1000000), (.iastore, 1, 0, 0, .null)]) (L' := [some (.ref 93), some (.int x1), some (.int x2), some (.int x3), none, none, none, none]) (st' := []) (w' := ((jup w.1 96 (Int32.toNatClampNeg x3) 1000000), w.2)) (g := [jin x3 10]) (K := [(96, 20)]) (by decide +kernel) rfl rfl rfl hg15 (jk1 kz_96 jk0) ?_
        refine jlw_c (P := fun w16 => Ev l G (jrm d_Model_wayOf 0 0) y_Model_wayOf (some (.int z.1), jR0, z.2) 0 0 0 0 25 [some (.ref 93), some (.int x1), some (.int x2), some (.int x3), none, none, none, none] [] jR0 w16) h fun w16 h => ?_
        refine ev_seg (o := 10) (nL := 8) (q := 2) (xs := [(.iinc 3 1, 3, 3, 0, .int 1), (.goto (-26), 3, 0, 0, .null)]) (L' := [some (.ref 93), some (.int x1), some (.int x2), some (.int (x3 + 1)), none, none, none, none]) (st' := []) (w' := w16) (g := []) (K := []) (by decide +kernel) rfl rfl rfl rfl jk0 ?_
        refine ev_mask [true, true, true, true, false, false, false, false] ?_
        exact ih _ _ _ _ _ h
      · replace h := jpos c19 h
        obtain ⟨hg17, h⟩ := jgd h
        refine ev_seg (o := 10) (nL := 8) (q := 25) (xs := [(.iconst 0, 1, 0, 0, .int 0), (.goto 5, 3, 0, 0, .null), (.iastore, 1, 0, 0, .null)]) (L' := [some (.ref 93), some (.int x1), some (.int x2), some (.int x3), none, none, none, none]) (st' := []) (w' := ((jup w.1 96 (Int32.toNatClampNeg x3) 0), w.2)) (g := [jin x3 10]) (K := [(96, 20)]) (by decide +kernel) rfl rfl rfl hg17 (jk1 kz_96 jk0) ?_
        refine jlw_c (P := fun w18 => Ev l G (jrm d_Model_wayOf 0 0) y_Model_wayOf (some (.int z.1), jR0, z.2) 0 0 0 0 25 [some (.ref 93), some (.int x1), some (.int x2), some (.int x3), none, none, none, none] [] jR0 w18) h fun w18 h => ?_
        refine ev_seg (o := 10) (nL := 8) (q := 2) (xs := [(.iinc 3 1, 3, 3, 0, .int 1), (.goto (-26), 3, 0, 0, .null)]) (L' := [some (.ref 93), some (.int x1), some (.int x2), some (.int (x3 + 1)), none, none, none, none]) (st' := []) (w' := w18) (g := []) (K := []) (by decide +kernel) rfl rfl rfl rfl jk0 ?_
        refine ev_mask [true, true, true, true, false, false, false, false] ?_
        exact ih _ _ _ _ _ h
def f_Model_wayOf (x1 : Int32) (x2 : Int32) (w : jW) : Option (Int32 × jW) :=
  f_Model_wayOf_h2 jfu x1 x2 0 w
set_option maxRecDepth 20000 in
theorem e_Model_wayOf {l : Launch} {G : jG} (hG : jX G) {x1 : Int32} {x2 : Int32} {w : jW} {z : (Int32 × jW)} (h : f_Model_wayOf x1 x2 w = some z) : Ct l G y_Model_wayOf d_Model_wayOf 0 0 [.ref 93, .int x1, .int x2] jR0 w (some (.int z.1), jR0, z.2) := by
  rw [f_Model_wayOf] at h
  refine Ct.of (L := [some (.ref 93), some (.int x1), some (.int x2), none, none, none, none, none]) (by decide) (Nat.le_of_ble_eq_true rfl) rfl ?_
  refine ev_seg (o := 10) (nL := 8) (q := 2) (xs := [(.iconst 0, 1, 0, 0, .int 0), (.istore_n 3, 1, 3, 0, .null)]) (L' := [some (.ref 93), some (.int x1), some (.int x2), some (.int 0), none, none, none, none]) (st' := []) (w' := w) (g := []) (K := []) (by decide +kernel) rfl rfl rfl rfl jk0 ?_
  refine ev_mask [true, true, true, true, false, false, false, false] ?_
  exact t_Model_wayOf_h2 hG jfu _ _ _ _ _ h
def f_Model_way (x1 : Int32) (x2 : Int32) (w : jW) : Option (Int32 × jW) :=
  Option.bind (f_Model_isSite x1 w) fun q1 =>
  if q1.1 = 0 then
    some ((-1), q1.2)
  else
    Option.bind (f_Model_isSite x2 q1.2) fun q2 =>
    if q2.1 = 0 then
      some ((-1), q2.2)
    else
      Option.bind (f_Model_wayOf x1 x2 q2.2) fun q3 =>
      some (q3.1, q3.2)
set_option maxRecDepth 20000 in
theorem e_Model_way {l : Launch} {G : jG} (hG : jX G) {x1 : Int32} {x2 : Int32} {w : jW} {z : (Int32 × jW)} (h : f_Model_way x1 x2 w = some z) : Ct l G y_Model_way d_Model_way 0 0 [.ref 93, .int x1, .int x2] jR0 w (some (.int z.1), jR0, z.2) := by
  rw [f_Model_way] at h
  refine Ct.of (L := [some (.ref 93), some (.int x1), some (.int x2)]) (by decide) (Nat.le_of_ble_eq_true rfl) rfl ?_
  refine ev_seg (o := 10) (nL := 3) (q := 2) (xs := [(.aload_n 0, 1, 0, 0, .null), (.iload_n 1, 1, 1, 0, .null)]) (L' := [some (.ref 93), some (.int x1), some (.int x2)]) (st' := [.int x1, .ref 93]) (w' := w) (g := []) (K := []) (by decide +kernel) rfl rfl rfl rfl jk0 ?_
  obtain ⟨q1, hq1, h⟩ := jbe h
  refine ev_callV (ci := 10) (a := 93) (y2 := y_Model_isSite) (o := 10) (idx := 50) (d2 := d_Model_isSite) (n := 1) (mc2 := 0) (ms2 := 0) (As := [.int x1]) (st := []) (res2 := (some (.int q1.1), jR0, q1.2)) (by decide +kernel) rfl lk_10_50 mo_Model_isSite mv_Model_isSite ⟨Nat.le_of_ble_eq_true rfl, Nat.le_of_ble_eq_true rfl⟩ rfl rfl kz_93 (by decide) rfl (Nat.le_of_ble_eq_true rfl) ⟨Nat.le_refl _, Nat.le_refl _⟩ hG (e_Model_isSite hG hq1) ?_
  refine ev_if_eq (off := 20) (tgt := 25) (by decide +kernel) (by decide) (fun c5 => ?_) (fun c5 => ?_)
  · replace h := jpos c5 h
    refine ev_seg (o := 10) (nL := 3) (q := 26) (xs := [(.iconst (-1), 1, 0, 0, .int (-1))]) (L' := [some (.ref 93), some (.int x1), some (.int x2)]) (st' := [.int (-1)]) (w' := q1.2) (g := []) (K := []) (by decide +kernel) rfl rfl rfl rfl jk0 ?_
    cases h
    exact ev_iret (by decide +kernel) rfl rfl rfl rfl
  · replace h := jneg c5 h
    refine ev_seg (o := 10) (nL := 3) (q := 10) (xs := [(.aload_n 0, 1, 0, 0, .null), (.iload_n 2, 1, 2, 0, .null)]) (L' := [some (.ref 93), some (.int x1), some (.int x2)]) (st' := [.int x2, .ref 93]) (w' := q1.2) (g := []) (K := []) (by decide +kernel) rfl rfl rfl rfl jk0 ?_
    obtain ⟨q2, hq2, h⟩ := jbe h
    refine ev_callV (ci := 10) (a := 93) (y2 := y_Model_isSite) (o := 10) (idx := 50) (d2 := d_Model_isSite) (n := 1) (mc2 := 0) (ms2 := 0) (As := [.int x2]) (st := []) (res2 := (some (.int q2.1), jR0, q2.2)) (by decide +kernel) rfl lk_10_50 mo_Model_isSite mv_Model_isSite ⟨Nat.le_of_ble_eq_true rfl, Nat.le_of_ble_eq_true rfl⟩ rfl rfl kz_93 (by decide) rfl (Nat.le_of_ble_eq_true rfl) ⟨Nat.le_refl _, Nat.le_refl _⟩ hG (e_Model_isSite hG hq2) ?_
    refine ev_if_eq (off := 12) (tgt := 25) (by decide +kernel) (by decide) (fun c4 => ?_) (fun c4 => ?_)
    · replace h := jpos c4 h
      refine ev_seg (o := 10) (nL := 3) (q := 26) (xs := [(.iconst (-1), 1, 0, 0, .int (-1))]) (L' := [some (.ref 93), some (.int x1), some (.int x2)]) (st' := [.int (-1)]) (w' := q2.2) (g := []) (K := []) (by decide +kernel) rfl rfl rfl rfl jk0 ?_
      cases h
      exact ev_iret (by decide +kernel) rfl rfl rfl rfl
    · replace h := jneg c4 h
      refine ev_seg (o := 10) (nL := 3) (q := 19) (xs := [(.aload_n 0, 1, 0, 0, .null), (.iload_n 1, 1, 1, 0, .null), (.iload_n 2, 1, 2, 0, .null)]) (L' := [some (.ref 93), some (.int x1), some (.int x2)]) (st' := [.int x2, .int x1, .ref 93]) (w' := q2.2) (g := []) (K := []) (by decide +kernel) rfl rfl rfl rfl jk0 ?_
      obtain ⟨q3, hq3, h⟩ := jbe h
      refine ev_callV (ci := 10) (a := 93) (y2 := y_Model_wayOf) (o := 10) (idx := 59) (d2 := d_Model_wayOf) (n := 2) (mc2 := 0) (ms2 := 0) (As := [.int x1, .int x2]) (st := []) (res2 := (some (.int q3.1), jR0, q3.2)) (by decide +kernel) rfl lk_10_59 mo_Model_wayOf mv_Model_wayOf ⟨Nat.le_of_ble_eq_true rfl, Nat.le_of_ble_eq_true rfl⟩ rfl rfl kz_93 (by decide) rfl (Nat.le_of_ble_eq_true rfl) ⟨Nat.le_refl _, Nat.le_refl _⟩ hG (e_Model_wayOf hG hq3) ?_
      refine ev_seg (o := 10) (nL := 3) (q := 26) (xs := [(.goto 4, 3, 0, 0, .null)]) (L' := [some (.ref 93), some (.int x1), some (.int x2)]) (st' := [.int q3.1]) (w' := q3.2) (g := []) (K := []) (by decide +kernel) rfl rfl rfl rfl jk0 ?_
      cases h
      exact ev_iret (by decide +kernel) rfl rfl rfl rfl
def f_Model_sort (x1 : Int32) (x2 : Int32) (x3 : Int32) (x4 : Int32) (x5 : Int32) (w : jW) : Option (Int32 × jW) :=
  Option.bind (f_Model_isIn x1 0 3 w) fun q1 =>
  if q1.1 = 0 then
    some (0, q1.2)
  else
    Option.bind (f_Model_isIn x2 1 200 q1.2) fun q2 =>
    if q2.1 = 0 then
      some (0, q2.2)
    else
      Option.bind (f_Model_isIn x3 x2 200 q2.2) fun q3 =>
      if q3.1 = 0 then
        some (0, q3.2)
      else
        Option.bind (f_Model_isIn x4 1 500 q3.2) fun q4 =>
        if q4.1 = 0 then
          some (0, q4.2)
        else
          Option.bind (f_Model_isIn x5 x4 500 q4.2) fun q5 =>
          if q5.1 = 0 then
            some (0, q5.2)
          else
            if jal [jin 3 21000] = true then
            if (q5.2.1 94 (Int32.toNatClampNeg 3)) ≤ 0 then
              if jal [jin (20 + (4 * x1)) 21000] = true then
              jlw ((jup q5.2.1 94 (Int32.toNatClampNeg (20 + (4 * x1))) x2), q5.2.2) fun w8 =>
              if jal [jin ((20 + (4 * x1)) + 1) 21000] = true then
              jlw ((jup w8.1 94 (Int32.toNatClampNeg ((20 + (4 * x1)) + 1)) x3), w8.2) fun w10 =>
              if jal [jin ((20 + (4 * x1)) + 2) 21000] = true then
              jlw ((jup w10.1 94 (Int32.toNatClampNeg ((20 + (4 * x1)) + 2)) x4), w10.2) fun w12 =>
              if jal [jin ((20 + (4 * x1)) + 3) 21000] = true then
              jlw ((jup w12.1 94 (Int32.toNatClampNeg ((20 + (4 * x1)) + 3)) x5), w12.2) fun w14 =>
              some (1, w14)
              else none else none else none else none
            else
              some (0, q5.2)
            else none
set_option maxRecDepth 20000 in
theorem e_Model_sort {l : Launch} {G : jG} (hG : jX G) {x1 : Int32} {x2 : Int32} {x3 : Int32} {x4 : Int32} {x5 : Int32} {w : jW} {z : (Int32 × jW)} (h : f_Model_sort x1 x2 x3 x4 x5 w = some z) : Ct l G y_Model_sort d_Model_sort 0 0 [.ref 93, .int x1, .int x2, .int x3, .int x4, .int x5] jR0 w (some (.int z.1), jR0, z.2) := by
  rw [f_Model_sort] at h
  refine Ct.of (L := [some (.ref 93), some (.int x1), some (.int x2), some (.int x3), some (.int x4), some (.int x5)]) (by decide) (Nat.le_of_ble_eq_true rfl) rfl ?_
  refine ev_seg (o := 10) (nL := 6) (q := 3) (xs := [(.iload_n 1, 1, 1, 0, .null), (.iconst 0, 1, 0, 0, .int 0), (.iconst 3, 1, 0, 0, .int 3)]) (L' := [some (.ref 93), some (.int x1), some (.int x2), some (.int x3), some (.int x4), some (.int x5)]) (st' := [.int 3, .int 0, .int x1]) (w' := w) (g := []) (K := []) (by decide +kernel) rfl rfl rfl rfl jk0 ?_
  obtain ⟨q1, hq1, h⟩ := jbe h
  refine ev_callS (y2 := y_Model_isIn) (o := 10) (idx := 46) (d2 := d_Model_isIn) (n := 3) (mc2 := 0) (ms2 := 0) (As := [.int x1, .int 0, .int 3]) (st := []) (res2 := (some (.int q1.1), jR0, q1.2)) (by decide +kernel) rfl lk_10_46 mo_Model_isIn ms_Model_isIn ⟨Nat.le_of_ble_eq_true rfl, Nat.le_of_ble_eq_true rfl⟩ rfl rfl (Nat.le_of_ble_eq_true rfl) ⟨Nat.le_refl _, Nat.le_refl _⟩ hG (e_Model_isIn hG hq1) ?_
  refine ev_if_eq (off := 59) (tgt := 65) (by decide +kernel) (by decide) (fun c20 => ?_) (fun c20 => ?_)
  · replace h := jpos c20 h
    refine ev_seg (o := 10) (nL := 6) (q := 66) (xs := [(.iconst 0, 1, 0, 0, .int 0)]) (L' := [some (.ref 93), some (.int x1), some (.int x2), some (.int x3), some (.int x4), some (.int x5)]) (st' := [.int 0]) (w' := q1.2) (g := []) (K := []) (by decide +kernel) rfl rfl rfl rfl jk0 ?_
    cases h
    exact ev_zret (by decide +kernel) rfl rfl rfl rfl rfl
  · replace h := jneg c20 h
    refine ev_seg (o := 10) (nL := 6) (q := 14) (xs := [(.iload_n 2, 1, 2, 0, .null), (.iconst 1, 1, 0, 0, .int 1), (.sipush 200, 3, 0, 0, .int 200)]) (L' := [some (.ref 93), some (.int x1), some (.int x2), some (.int x3), some (.int x4), some (.int x5)]) (st' := [.int 200, .int 1, .int x2]) (w' := q1.2) (g := []) (K := []) (by decide +kernel) rfl rfl rfl rfl jk0 ?_
    obtain ⟨q2, hq2, h⟩ := jbe h
    refine ev_callS (y2 := y_Model_isIn) (o := 10) (idx := 46) (d2 := d_Model_isIn) (n := 3) (mc2 := 0) (ms2 := 0) (As := [.int x2, .int 1, .int 200]) (st := []) (res2 := (some (.int q2.1), jR0, q2.2)) (by decide +kernel) rfl lk_10_46 mo_Model_isIn ms_Model_isIn ⟨Nat.le_of_ble_eq_true rfl, Nat.le_of_ble_eq_true rfl⟩ rfl rfl (Nat.le_of_ble_eq_true rfl) ⟨Nat.le_refl _, Nat.le_refl _⟩ hG (e_Model_isIn hG hq2) ?_
    refine ev_if_eq (off := 48) (tgt := 65) (by decide +kernel) (by decide) (fun c19 => ?_) (fun c19 => ?_)
    · replace h := jpos c19 h
      refine ev_seg (o := 10) (nL := 6) (q := 66) (xs := [(.iconst 0, 1, 0, 0, .int 0)]) (L' := [some (.ref 93), some (.int x1), some (.int x2), some (.int x3), some (.int x4), some (.int x5)]) (st' := [.int 0]) (w' := q2.2) (g := []) (K := []) (by decide +kernel) rfl rfl rfl rfl jk0 ?_
      cases h
      exact ev_zret (by decide +kernel) rfl rfl rfl rfl rfl
    · replace h := jneg c19 h
      refine ev_seg (o := 10) (nL := 6) (q := 25) (xs := [(.iload_n 3, 1, 3, 0, .null), (.iload_n 2, 1, 2, 0, .null), (.sipush 200, 3, 0, 0, .int 200)]) (L' := [some (.ref 93), some (.int x1), some (.int x2), some (.int x3), some (.int x4), some (.int x5)]) (st' := [.int 200, .int x2, .int x3]) (w' := q2.2) (g := []) (K := []) (by decide +kernel) rfl rfl rfl rfl jk0 ?_
      obtain ⟨q3, hq3, h⟩ := jbe h
      refine ev_callS (y2 := y_Model_isIn) (o := 10) (idx := 46) (d2 := d_Model_isIn) (n := 3) (mc2 := 0) (ms2 := 0) (As := [.int x3, .int x2, .int 200]) (st := []) (res2 := (some (.int q3.1), jR0, q3.2)) (by decide +kernel) rfl lk_10_46 mo_Model_isIn ms_Model_isIn ⟨Nat.le_of_ble_eq_true rfl, Nat.le_of_ble_eq_true rfl⟩ rfl rfl (Nat.le_of_ble_eq_true rfl) ⟨Nat.le_refl _, Nat.le_refl _⟩ hG (e_Model_isIn hG hq3) ?_
      refine ev_if_eq (off := 37) (tgt := 65) (by decide +kernel) (by decide) (fun c18 => ?_) (fun c18 => ?_)
      · replace h := jpos c18 h
        refine ev_seg (o := 10) (nL := 6) (q := 66) (xs := [(.iconst 0, 1, 0, 0, .int 0)]) (L' := [some (.ref 93), some (.int x1), some (.int x2), some (.int x3), some (.int x4), some (.int x5)]) (st' := [.int 0]) (w' := q3.2) (g := []) (K := []) (by decide +kernel) rfl rfl rfl rfl jk0 ?_
        cases h
        exact ev_zret (by decide +kernel) rfl rfl rfl rfl rfl
      · replace h := jneg c18 h
        refine ev_seg (o := 10) (nL := 6) (q := 37) (xs := [(.iload 4, 2, 4, 0, .null), (.iconst 1, 1, 0, 0, .int 1), (.sipush 500, 3, 0, 0, .int 500)]) (L' := [some (.ref 93), some (.int x1), some (.int x2), some (.int x3), some (.int x4), some (.int x5)]) (st' := [.int 500, .int 1, .int x4]) (w' := q3.2) (g := []) (K := []) (by decide +kernel) rfl rfl rfl rfl jk0 ?_
        obtain ⟨q4, hq4, h⟩ := jbe h
        refine ev_callS (y2 := y_Model_isIn) (o := 10) (idx := 46) (d2 := d_Model_isIn) (n := 3) (mc2 := 0) (ms2 := 0) (As := [.int x4, .int 1, .int 500]) (st := []) (res2 := (some (.int q4.1), jR0, q4.2)) (by decide +kernel) rfl lk_10_46 mo_Model_isIn ms_Model_isIn ⟨Nat.le_of_ble_eq_true rfl, Nat.le_of_ble_eq_true rfl⟩ rfl rfl (Nat.le_of_ble_eq_true rfl) ⟨Nat.le_refl _, Nat.le_refl _⟩ hG (e_Model_isIn hG hq4) ?_
        refine ev_if_eq (off := 25) (tgt := 65) (by decide +kernel) (by decide) (fun c17 => ?_) (fun c17 => ?_)
        · replace h := jpos c17 h
          refine ev_seg (o := 10) (nL := 6) (q := 66) (xs := [(.iconst 0, 1, 0, 0, .int 0)]) (L' := [some (.ref 93), some (.int x1), some (.int x2), some (.int x3), some (.int x4), some (.int x5)]) (st' := [.int 0]) (w' := q4.2) (g := []) (K := []) (by decide +kernel) rfl rfl rfl rfl jk0 ?_
          cases h
          exact ev_zret (by decide +kernel) rfl rfl rfl rfl rfl
        · replace h := jneg c17 h
          refine ev_seg (o := 10) (nL := 6) (q := 50) (xs := [(.iload 5, 2, 5, 0, .null), (.iload 4, 2, 4, 0, .null), (.sipush 500, 3, 0, 0, .int 500)]) (L' := [some (.ref 93), some (.int x1), some (.int x2), some (.int x3), some (.int x4), some (.int x5)]) (st' := [.int 500, .int x4, .int x5]) (w' := q4.2) (g := []) (K := []) (by decide +kernel) rfl rfl rfl rfl jk0 ?_
          obtain ⟨q5, hq5, h⟩ := jbe h
          refine ev_callS (y2 := y_Model_isIn) (o := 10) (idx := 46) (d2 := d_Model_isIn) (n := 3) (mc2 := 0) (ms2 := 0) (As := [.int x5, .int x4, .int 500]) (st := []) (res2 := (some (.int q5.1), jR0, q5.2)) (by decide +kernel) rfl lk_10_46 mo_Model_isIn ms_Model_isIn ⟨Nat.le_of_ble_eq_true rfl, Nat.le_of_ble_eq_true rfl⟩ rfl rfl (Nat.le_of_ble_eq_true rfl) ⟨Nat.le_refl _, Nat.le_refl _⟩ hG (e_Model_isIn hG hq5) ?_
          refine ev_if_eq (off := 12) (tgt := 65) (by decide +kernel) (by decide) (fun c16 => ?_) (fun c16 => ?_)
          · replace h := jpos c16 h
            refine ev_seg (o := 10) (nL := 6) (q := 66) (xs := [(.iconst 0, 1, 0, 0, .int 0)]) (L' := [some (.ref 93), some (.int x1), some (.int x2), some (.int x3), some (.int x4), some (.int x5)]) (st' := [.int 0]) (w' := q5.2) (g := []) (K := []) (by decide +kernel) rfl rfl rfl rfl jk0 ?_
            cases h
            exact ev_zret (by decide +kernel) rfl rfl rfl rfl rfl
          · replace h := jneg c16 h
            obtain ⟨hg6, h⟩ := jgd h
            refine ev_seg (o := 10) (nL := 6) (q := 62) (xs := [(.aload_n 0, 1, 0, 0, .null), (.getfield 7, 3, 10, 0, .ref 20), (.iconst 3, 1, 0, 0, .int 3), (.iaload, 1, 0, 0, .null)]) (L' := [some (.ref 93), some (.int x1), some (.int x2), some (.int x3), some (.int x4), some (.int x5)]) (st' := [.int (q5.2.1 94 (Int32.toNatClampNeg 3))]) (w' := q5.2) (g := [jin 3 21000]) (K := [(94, 20), (94, 20), (93, 10)]) (by decide +kernel) rfl rfl rfl hg6 (jk1 kz_94 (jk1 kz_94 (jk1 kz_93 jk0))) ?_
            refine ev_if_le (off := 5) (tgt := 67) (by decide +kernel) (by decide) (fun c15 => ?_) (fun c15 => ?_)
            · replace h := jpos c15 h
              obtain ⟨hg7, h⟩ := jgd h
              refine ev_seg (o := 10) (nL := 6) (q := 79) (xs := [(.aload_n 0, 1, 0, 0, .null), (.getfield 7, 3, 10, 0, .ref 20), (.bipush 20, 2, 0, 0, .int 20), (.iconst 4, 1, 0, 0, .int 4), (.iload_n 1, 1, 1, 0, .null), (.imul, 1, 0, 0, .null), (.iadd, 1, 0, 0, .null), (.iload_n 2, 1, 2, 0, .null), (.iastore, 1, 0, 0, .null)]) (L' := [some (.ref 93), some (.int x1), some (.int x2), some (.int x3), some (.int x4), some (.int x5)]) (st' := []) (w' := ((jup q5.2.1 94 (Int32.toNatClampNeg (20 + (4 * x1))) x2), q5.2.2)) (g := [jin (20 + (4 * x1)) 21000]) (K := [(94, 20), (94, 20), (93, 10)]) (by decide +kernel) rfl rfl rfl hg7 (jk1 kz_94 (jk1 kz_94 (jk1 kz_93 jk0))) ?_
              refine jlw_c (P := fun w8 => Ev l G (jrm d_Model_sort 0 0) y_Model_sort (some (.int z.1), jR0, z.2) 0 0 0 0 79 [some (.ref 93), some (.int x1), some (.int x2), some (.int x3), some (.int x4), some (.int x5)] [] jR0 w8) h fun w8 h => ?_
              obtain ⟨hg9, h⟩ := jgd h
              refine ev_seg (o := 10) (nL := 6) (q := 93) (xs := [(.aload_n 0, 1, 0, 0, .null), (.getfield 7, 3, 10, 0, .ref 20), (.bipush 20, 2, 0, 0, .int 20), (.iconst 4, 1, 0, 0, .int 4), (.iload_n 1, 1, 1, 0, .null), (.imul, 1, 0, 0, .null), (.iadd, 1, 0, 0, .null), (.iconst 1, 1, 0, 0, .int 1), (.iadd, 1, 0, 0, .null), (.iload_n 3, 1, 3, 0, .null), (.iastore, 1, 0, 0, .null)]) (L' := [some (.ref 93), some (.int x1), some (.int x2), some (.int x3), some (.int x4), some (.int x5)]) (st' := []) (w' := ((jup w8.1 94 (Int32.toNatClampNeg ((20 + (4 * x1)) + 1)) x3), w8.2)) (g := [jin ((20 + (4 * x1)) + 1) 21000]) (K := [(94, 20), (94, 20), (93, 10)]) (by decide +kernel) rfl rfl rfl hg9 (jk1 kz_94 (jk1 kz_94 (jk1 kz_93 jk0))) ?_
              refine jlw_c (P := fun w10 => Ev l G (jrm d_Model_sort 0 0) y_Model_sort (some (.int z.1), jR0, z.2) 0 0 0 0 93 [some (.ref 93), some (.int x1), some (.int x2), some (.int x3), some (.int x4), some (.int x5)] [] jR0 w10) h fun w10 h => ?_
              obtain ⟨hg11, h⟩ := jgd h
              refine ev_seg (o := 10) (nL := 6) (q := 108) (xs := [(.aload_n 0, 1, 0, 0, .null), (.getfield 7, 3, 10, 0, .ref 20), (.bipush 20, 2, 0, 0, .int 20), (.iconst 4, 1, 0, 0, .int 4), (.iload_n 1, 1, 1, 0, .null), (.imul, 1, 0, 0, .null), (.iadd, 1, 0, 0, .null), (.iconst 2, 1, 0, 0, .int 2), (.iadd, 1, 0, 0, .null), (.iload 4, 2, 4, 0, .null), (.iastore, 1, 0, 0, .null)]) (L' := [some (.ref 93), some (.int x1), some (.int x2), some (.int x3), some (.int x4), some (.int x5)]) (st' := []) (w' := ((jup w10.1 94 (Int32.toNatClampNeg ((20 + (4 * x1)) + 2)) x4), w10.2)) (g := [jin ((20 + (4 * x1)) + 2) 21000]) (K := [(94, 20), (94, 20), (93, 10)]) (by decide +kernel) rfl rfl rfl hg11 (jk1 kz_94 (jk1 kz_94 (jk1 kz_93 jk0))) ?_
              refine jlw_c (P := fun w12 => Ev l G (jrm d_Model_sort 0 0) y_Model_sort (some (.int z.1), jR0, z.2) 0 0 0 0 108 [some (.ref 93), some (.int x1), some (.int x2), some (.int x3), some (.int x4), some (.int x5)] [] jR0 w12) h fun w12 h => ?_
              obtain ⟨hg13, h⟩ := jgd h
              refine ev_seg (o := 10) (nL := 6) (q := 123) (xs := [(.aload_n 0, 1, 0, 0, .null), (.getfield 7, 3, 10, 0, .ref 20), (.bipush 20, 2, 0, 0, .int 20), (.iconst 4, 1, 0, 0, .int 4), (.iload_n 1, 1, 1, 0, .null), (.imul, 1, 0, 0, .null), (.iadd, 1, 0, 0, .null), (.iconst 3, 1, 0, 0, .int 3), (.iadd, 1, 0, 0, .null), (.iload 5, 2, 5, 0, .null), (.iastore, 1, 0, 0, .null)]) (L' := [some (.ref 93), some (.int x1), some (.int x2), some (.int x3), some (.int x4), some (.int x5)]) (st' := []) (w' := ((jup w12.1 94 (Int32.toNatClampNeg ((20 + (4 * x1)) + 3)) x5), w12.2)) (g := [jin ((20 + (4 * x1)) + 3) 21000]) (K := [(94, 20), (94, 20), (93, 10)]) (by decide +kernel) rfl rfl rfl hg13 (jk1 kz_94 (jk1 kz_94 (jk1 kz_93 jk0))) ?_
              refine jlw_c (P := fun w14 => Ev l G (jrm d_Model_sort 0 0) y_Model_sort (some (.int z.1), jR0, z.2) 0 0 0 0 123 [some (.ref 93), some (.int x1), some (.int x2), some (.int x3), some (.int x4), some (.int x5)] [] jR0 w14) h fun w14 h => ?_
              refine ev_seg (o := 10) (nL := 6) (q := 124) (xs := [(.iconst 1, 1, 0, 0, .int 1)]) (L' := [some (.ref 93), some (.int x1), some (.int x2), some (.int x3), some (.int x4), some (.int x5)]) (st' := [.int 1]) (w' := w14) (g := []) (K := []) (by decide +kernel) rfl rfl rfl rfl jk0 ?_
              cases h
              exact ev_zret (by decide +kernel) rfl rfl rfl rfl rfl
            · replace h := jneg c15 h
              refine ev_seg (o := 10) (nL := 6) (q := 66) (xs := [(.iconst 0, 1, 0, 0, .int 0)]) (L' := [some (.ref 93), some (.int x1), some (.int x2), some (.int x3), some (.int x4), some (.int x5)]) (st' := [.int 0]) (w' := q5.2) (g := []) (K := []) (by decide +kernel) rfl rfl rfl rfl jk0 ?_
              cases h
              exact ev_zret (by decide +kernel) rfl rfl rfl rfl rfl
def f_Model_rules (x1 : Int32) (x2 : Int32) (x3 : Int32) (w : jW) : Option (Int32 × jW) :=
  Option.bind (f_Model_isIn x1 0 50 w) fun q1 =>
  if q1.1 = 0 then
    some (0, q1.2)
  else
    Option.bind (f_Model_isIn x2 0 50 q1.2) fun q2 =>
    if q2.1 = 0 then
      some (0, q2.2)
    else
      Option.bind (f_Model_isIn x3 1 200 q2.2) fun q3 =>
      if q3.1 = 0 then
        some (0, q3.2)
      else
        if jal [jin 3 21000] = true then
        if (q3.2.1 94 (Int32.toNatClampNeg 3)) ≤ 0 then
          if jal [jin 14 21000] = true then
          jlw ((jup q3.2.1 94 (Int32.toNatClampNeg 14) x1), q3.2.2) fun w6 =>
          if jal [jin 15 21000] = true then
          jlw ((jup w6.1 94 (Int32.toNatClampNeg 15) x2), w6.2) fun w8 =>
          if jal [jin 16 21000] = true then
          jlw ((jup w8.1 94 (Int32.toNatClampNeg 16) x3), w8.2) fun w10 =>
          some (1, w10)
          else none else none else none
        else
          some (0, q3.2)
        else none
set_option maxRecDepth 20000 in
theorem e_Model_rules {l : Launch} {G : jG} (hG : jX G) {x1 : Int32} {x2 : Int32} {x3 : Int32} {w : jW} {z : (Int32 × jW)} (h : f_Model_rules x1 x2 x3 w = some z) : Ct l G y_Model_rules d_Model_rules 0 0 [.ref 93, .int x1, .int x2, .int x3] jR0 w (some (.int z.1), jR0, z.2) := by
  rw [f_Model_rules] at h
  refine Ct.of (L := [some (.ref 93), some (.int x1), some (.int x2), some (.int x3)]) (by decide) (Nat.le_of_ble_eq_true rfl) rfl ?_
  refine ev_seg (o := 10) (nL := 4) (q := 4) (xs := [(.iload_n 1, 1, 1, 0, .null), (.iconst 0, 1, 0, 0, .int 0), (.bipush 50, 2, 0, 0, .int 50)]) (L' := [some (.ref 93), some (.int x1), some (.int x2), some (.int x3)]) (st' := [.int 50, .int 0, .int x1]) (w' := w) (g := []) (K := []) (by decide +kernel) rfl rfl rfl rfl jk0 ?_
  obtain ⟨q1, hq1, h⟩ := jbe h
  refine ev_callS (y2 := y_Model_isIn) (o := 10) (idx := 46) (d2 := d_Model_isIn) (n := 3) (mc2 := 0) (ms2 := 0) (As := [.int x1, .int 0, .int 50]) (st := []) (res2 := (some (.int q1.1), jR0, q1.2)) (by decide +kernel) rfl lk_10_46 mo_Model_isIn ms_Model_isIn ⟨Nat.le_of_ble_eq_true rfl, Nat.le_of_ble_eq_true rfl⟩ rfl rfl (Nat.le_of_ble_eq_true rfl) ⟨Nat.le_refl _, Nat.le_refl _⟩ hG (e_Model_isIn hG hq1) ?_
  refine ev_if_eq (off := 33) (tgt := 40) (by decide +kernel) (by decide) (fun c14 => ?_) (fun c14 => ?_)
  · replace h := jpos c14 h
    refine ev_seg (o := 10) (nL := 4) (q := 41) (xs := [(.iconst 0, 1, 0, 0, .int 0)]) (L' := [some (.ref 93), some (.int x1), some (.int x2), some (.int x3)]) (st' := [.int 0]) (w' := q1.2) (g := []) (K := []) (by decide +kernel) rfl rfl rfl rfl jk0 ?_
    cases h
    exact ev_zret (by decide +kernel) rfl rfl rfl rfl rfl
  · replace h := jneg c14 h
    refine ev_seg (o := 10) (nL := 4) (q := 14) (xs := [(.iload_n 2, 1, 2, 0, .null), (.iconst 0, 1, 0, 0, .int 0), (.bipush 50, 2, 0, 0, .int 50)]) (L' := [some (.ref 93), some (.int x1), some (.int x2), some (.int x3)]) (st' := [.int 50, .int 0, .int x2]) (w' := q1.2) (g := []) (K := []) (by decide +kernel) rfl rfl rfl rfl jk0 ?_
    obtain ⟨q2, hq2, h⟩ := jbe h
    refine ev_callS (y2 := y_Model_isIn) (o := 10) (idx := 46) (d2 := d_Model_isIn) (n := 3) (mc2 := 0) (ms2 := 0) (As := [.int x2, .int 0, .int 50]) (st := []) (res2 := (some (.int q2.1), jR0, q2.2)) (by decide +kernel) rfl lk_10_46 mo_Model_isIn ms_Model_isIn ⟨Nat.le_of_ble_eq_true rfl, Nat.le_of_ble_eq_true rfl⟩ rfl rfl (Nat.le_of_ble_eq_true rfl) ⟨Nat.le_refl _, Nat.le_refl _⟩ hG (e_Model_isIn hG hq2) ?_
    refine ev_if_eq (off := 23) (tgt := 40) (by decide +kernel) (by decide) (fun c13 => ?_) (fun c13 => ?_)
    · replace h := jpos c13 h
      refine ev_seg (o := 10) (nL := 4) (q := 41) (xs := [(.iconst 0, 1, 0, 0, .int 0)]) (L' := [some (.ref 93), some (.int x1), some (.int x2), some (.int x3)]) (st' := [.int 0]) (w' := q2.2) (g := []) (K := []) (by decide +kernel) rfl rfl rfl rfl jk0 ?_
      cases h
      exact ev_zret (by decide +kernel) rfl rfl rfl rfl rfl
    · replace h := jneg c13 h
      refine ev_seg (o := 10) (nL := 4) (q := 25) (xs := [(.iload_n 3, 1, 3, 0, .null), (.iconst 1, 1, 0, 0, .int 1), (.sipush 200, 3, 0, 0, .int 200)]) (L' := [some (.ref 93), some (.int x1), some (.int x2), some (.int x3)]) (st' := [.int 200, .int 1, .int x3]) (w' := q2.2) (g := []) (K := []) (by decide +kernel) rfl rfl rfl rfl jk0 ?_
      obtain ⟨q3, hq3, h⟩ := jbe h
      refine ev_callS (y2 := y_Model_isIn) (o := 10) (idx := 46) (d2 := d_Model_isIn) (n := 3) (mc2 := 0) (ms2 := 0) (As := [.int x3, .int 1, .int 200]) (st := []) (res2 := (some (.int q3.1), jR0, q3.2)) (by decide +kernel) rfl lk_10_46 mo_Model_isIn ms_Model_isIn ⟨Nat.le_of_ble_eq_true rfl, Nat.le_of_ble_eq_true rfl⟩ rfl rfl (Nat.le_of_ble_eq_true rfl) ⟨Nat.le_refl _, Nat.le_refl _⟩ hG (e_Model_isIn hG hq3) ?_
      refine ev_if_eq (off := 12) (tgt := 40) (by decide +kernel) (by decide) (fun c12 => ?_) (fun c12 => ?_)
      · replace h := jpos c12 h
        refine ev_seg (o := 10) (nL := 4) (q := 41) (xs := [(.iconst 0, 1, 0, 0, .int 0)]) (L' := [some (.ref 93), some (.int x1), some (.int x2), some (.int x3)]) (st' := [.int 0]) (w' := q3.2) (g := []) (K := []) (by decide +kernel) rfl rfl rfl rfl jk0 ?_
        cases h
        exact ev_zret (by decide +kernel) rfl rfl rfl rfl rfl
      · replace h := jneg c12 h
        obtain ⟨hg4, h⟩ := jgd h
        refine ev_seg (o := 10) (nL := 4) (q := 37) (xs := [(.aload_n 0, 1, 0, 0, .null), (.getfield 7, 3, 10, 0, .ref 20), (.iconst 3, 1, 0, 0, .int 3), (.iaload, 1, 0, 0, .null)]) (L' := [some (.ref 93), some (.int x1), some (.int x2), some (.int x3)]) (st' := [.int (q3.2.1 94 (Int32.toNatClampNeg 3))]) (w' := q3.2) (g := [jin 3 21000]) (K := [(94, 20), (94, 20), (93, 10)]) (by decide +kernel) rfl rfl rfl hg4 (jk1 kz_94 (jk1 kz_94 (jk1 kz_93 jk0))) ?_
        refine ev_if_le (off := 5) (tgt := 42) (by decide +kernel) (by decide) (fun c11 => ?_) (fun c11 => ?_)
        · replace h := jpos c11 h
          obtain ⟨hg5, h⟩ := jgd h
          refine ev_seg (o := 10) (nL := 4) (q := 50) (xs := [(.aload_n 0, 1, 0, 0, .null), (.getfield 7, 3, 10, 0, .ref 20), (.bipush 14, 2, 0, 0, .int 14), (.iload_n 1, 1, 1, 0, .null), (.iastore, 1, 0, 0, .null)]) (L' := [some (.ref 93), some (.int x1), some (.int x2), some (.int x3)]) (st' := []) (w' := ((jup q3.2.1 94 (Int32.toNatClampNeg 14) x1), q3.2.2)) (g := [jin 14 21000]) (K := [(94, 20), (94, 20), (93, 10)]) (by decide +kernel) rfl rfl rfl hg5 (jk1 kz_94 (jk1 kz_94 (jk1 kz_93 jk0))) ?_
          refine jlw_c (P := fun w6 => Ev l G (jrm d_Model_rules 0 0) y_Model_rules (some (.int z.1), jR0, z.2) 0 0 0 0 50 [some (.ref 93), some (.int x1), some (.int x2), some (.int x3)] [] jR0 w6) h fun w6 h => ?_
          obtain ⟨hg7, h⟩ := jgd h
          refine ev_seg (o := 10) (nL := 4) (q := 58) (xs := [(.aload_n 0, 1, 0, 0, .null), (.getfield 7, 3, 10, 0, .ref 20), (.bipush 15, 2, 0, 0, .int 15), (.iload_n 2, 1, 2, 0, .null), (.iastore, 1, 0, 0, .null)]) (L' := [some (.ref 93), some (.int x1), some (.int x2), some (.int x3)]) (st' := []) (w' := ((jup w6.1 94 (Int32.toNatClampNeg 15) x2), w6.2)) (g := [jin 15 21000]) (K := [(94, 20), (94, 20), (93, 10)]) (by decide +kernel) rfl rfl rfl hg7 (jk1 kz_94 (jk1 kz_94 (jk1 kz_93 jk0))) ?_
          refine jlw_c (P := fun w8 => Ev l G (jrm d_Model_rules 0 0) y_Model_rules (some (.int z.1), jR0, z.2) 0 0 0 0 58 [some (.ref 93), some (.int x1), some (.int x2), some (.int x3)] [] jR0 w8) h fun w8 h => ?_
          obtain ⟨hg9, h⟩ := jgd h
          refine ev_seg (o := 10) (nL := 4) (q := 66) (xs := [(.aload_n 0, 1, 0, 0, .null), (.getfield 7, 3, 10, 0, .ref 20), (.bipush 16, 2, 0, 0, .int 16), (.iload_n 3, 1, 3, 0, .null), (.iastore, 1, 0, 0, .null)]) (L' := [some (.ref 93), some (.int x1), some (.int x2), some (.int x3)]) (st' := []) (w' := ((jup w8.1 94 (Int32.toNatClampNeg 16) x3), w8.2)) (g := [jin 16 21000]) (K := [(94, 20), (94, 20), (93, 10)]) (by decide +kernel) rfl rfl rfl hg9 (jk1 kz_94 (jk1 kz_94 (jk1 kz_93 jk0))) ?_
          refine jlw_c (P := fun w10 => Ev l G (jrm d_Model_rules 0 0) y_Model_rules (some (.int z.1), jR0, z.2) 0 0 0 0 66 [some (.ref 93), some (.int x1), some (.int x2), some (.int x3)] [] jR0 w10) h fun w10 h => ?_
          refine ev_seg (o := 10) (nL := 4) (q := 67) (xs := [(.iconst 1, 1, 0, 0, .int 1)]) (L' := [some (.ref 93), some (.int x1), some (.int x2), some (.int x3)]) (st' := [.int 1]) (w' := w10) (g := []) (K := []) (by decide +kernel) rfl rfl rfl rfl jk0 ?_
          cases h
          exact ev_zret (by decide +kernel) rfl rfl rfl rfl rfl
        · replace h := jneg c11 h
          refine ev_seg (o := 10) (nL := 4) (q := 41) (xs := [(.iconst 0, 1, 0, 0, .int 0)]) (L' := [some (.ref 93), some (.int x1), some (.int x2), some (.int x3)]) (st' := [.int 0]) (w' := q3.2) (g := []) (K := []) (by decide +kernel) rfl rfl rfl rfl jk0 ?_
          cases h
          exact ev_zret (by decide +kernel) rfl rfl rfl rfl rfl
def f_Model_noted (x1 : Int32) (x2 : Int32) (x3 : Int32) (x4 : Int32) (w : jW) : Option jW :=
  if jal [jin (13080 + (8 * (w.1 94 (Int32.toNatClampNeg 11)))) 21000, jin 11 21000] = true then
  jlw ((jup w.1 94 (Int32.toNatClampNeg (13080 + (8 * (w.1 94 (Int32.toNatClampNeg 11))))) x1), w.2) fun w2 =>
  if jal [jin ((13080 + (8 * (w.1 94 (Int32.toNatClampNeg 11)))) + 1) 21000, jin 0 21000] = true then
  jlw ((jup w2.1 94 (Int32.toNatClampNeg ((13080 + (8 * (w.1 94 (Int32.toNatClampNeg 11)))) + 1)) (w2.1 94 (Int32.toNatClampNeg 0))), w2.2) fun w4 =>
  if jal [jin ((13080 + (8 * (w.1 94 (Int32.toNatClampNeg 11)))) + 2) 21000] = true then
  jlw ((jup w4.1 94 (Int32.toNatClampNeg ((13080 + (8 * (w.1 94 (Int32.toNatClampNeg 11)))) + 2)) x2), w4.2) fun w6 =>
  if jal [jin ((13080 + (8 * (w.1 94 (Int32.toNatClampNeg 11)))) + 3) 21000] = true then
  jlw ((jup w6.1 94 (Int32.toNatClampNeg ((13080 + (8 * (w.1 94 (Int32.toNatClampNeg 11)))) + 3)) x3), w6.2) fun w8 =>
  if jal [jin ((13080 + (8 * (w.1 94 (Int32.toNatClampNeg 11)))) + 4) 21000] = true then
  jlw ((jup w8.1 94 (Int32.toNatClampNeg ((13080 + (8 * (w.1 94 (Int32.toNatClampNeg 11)))) + 4)) x4), w8.2) fun w10 =>
  if jal [jin 11 21000, jin 11 21000] = true then
  jlw ((jup w10.1 94 (Int32.toNatClampNeg 11) ((w10.1 94 (Int32.toNatClampNeg 11)) + 1)), w10.2) fun w12 =>
  some w12
  else none else none else none else none else none else none
set_option maxRecDepth 20000 in
theorem e_Model_noted {l : Launch} {G : jG} (hG : jX G) {x1 : Int32} {x2 : Int32} {x3 : Int32} {x4 : Int32} {w : jW} {z : jW} (h : f_Model_noted x1 x2 x3 x4 w = some z) : Ct l G y_Model_noted d_Model_noted 0 0 [.ref 93, .int x1, .int x2, .int x3, .int x4] jR0 w (none, jR0, z) := by
  rw [f_Model_noted] at h
  refine Ct.of (L := [some (.ref 93), some (.int x1), some (.int x2), some (.int x3), some (.int x4), none]) (by decide) (Nat.le_of_ble_eq_true rfl) rfl ?_
  obtain ⟨hg1, h⟩ := jgd h
  refine ev_seg (o := 10) (nL := 6) (q := 24) (xs := [(.sipush 13080, 3, 0, 0, .int 13080), (.bipush 8, 2, 0, 0, .int 8), (.aload_n 0, 1, 0, 0, .null), (.getfield 7, 3, 10, 0, .ref 20), (.bipush 11, 2, 0, 0, .int 11), (.iaload, 1, 0, 0, .null), (.imul, 1, 0, 0, .null), (.iadd, 1, 0, 0, .null), (.istore 5, 2, 5, 0, .null), (.aload_n 0, 1, 0, 0, .null), (.getfield 7, 3, 10, 0, .ref 20), (.iload 5, 2, 5, 0, .null), (.iload_n 1, 1, 1, 0, .null), (.iastore, 1, 0, 0, .null)]) (L' := [some (.ref 93), some (.int x1), some (.int x2), some (.int x3), some (.int x4), some (.int (13080 + (8 * (w.1 94 (Int32.toNatClampNeg 11)))))]) (st' := []) (w' := ((jup w.1 94 (Int32.toNatClampNeg (13080 + (8 * (w.1 94 (Int32.toNatClampNeg 11))))) x1), w.2)) (g := [jin (13080 + (8 * (w.1 94 (Int32.toNatClampNeg 11)))) 21000, jin 11 21000]) (K := [(94, 20), (94, 20), (93, 10), (94, 20), (94, 20), (93, 10)]) (by decide +kernel) rfl rfl rfl hg1 (jk1 kz_94 (jk1 kz_94 (jk1 kz_93 (jk1 kz_94 (jk1 kz_94 (jk1 kz_93 jk0)))))) ?_
  refine jlw_c (P := fun w2 => Ev l G (jrm d_Model_noted 0 0) y_Model_noted (none, jR0, z) 0 0 0 0 24 [some (.ref 93), some (.int x1), some (.int x2), some (.int x3), some (.int x4), some (.int (13080 + (8 * (w.1 94 (Int32.toNatClampNeg 11)))))] [] jR0 w2) h fun w2 h => ?_
  obtain ⟨hg3, h⟩ := jgd h
  refine ev_seg (o := 10) (nL := 6) (q := 39) (xs := [(.aload_n 0, 1, 0, 0, .null), (.getfield 7, 3, 10, 0, .ref 20), (.iload 5, 2, 5, 0, .null), (.iconst 1, 1, 0, 0, .int 1), (.iadd, 1, 0, 0, .null), (.aload_n 0, 1, 0, 0, .null), (.getfield 7, 3, 10, 0, .ref 20), (.iconst 0, 1, 0, 0, .int 0), (.iaload, 1, 0, 0, .null), (.iastore, 1, 0, 0, .null)]) (L' := [some (.ref 93), some (.int x1), some (.int x2), some (.int x3), some (.int x4), some (.int (13080 + (8 * (w.1 94 (Int32.toNatClampNeg 11)))))]) (st' := []) (w' := ((jup w2.1 94 (Int32.toNatClampNeg ((13080 + (8 * (w.1 94 (Int32.toNatClampNeg 11)))) + 1)) (w2.1 94 (Int32.toNatClampNeg 0))), w2.2)) (g := [jin ((13080 + (8 * (w.1 94 (Int32.toNatClampNeg 11)))) + 1) 21000, jin 0 21000]) (K := [(94, 20), (94, 20), (94, 20), (93, 10), (94, 20), (93, 10)]) (by decide +kernel) rfl rfl rfl hg3 (jk1 kz_94 (jk1 kz_94 (jk1 kz_94 (jk1 kz_93 (jk1 kz_94 (jk1 kz_93 jk0)))))) ?_
  refine jlw_c (P := fun w4 => Ev l G (jrm d_Model_noted 0 0) y_Model_noted (none, jR0, z) 0 0 0 0 39 [some (.ref 93), some (.int x1), some (.int x2), some (.int x3), some (.int x4), some (.int (13080 + (8 * (w.1 94 (Int32.toNatClampNeg 11)))))] [] jR0 w4) h fun w4 h => ?_
  obtain ⟨hg5, h⟩ := jgd h
  refine ev_seg (o := 10) (nL := 6) (q := 49) (xs := [(.aload_n 0, 1, 0, 0, .null), (.getfield 7, 3, 10, 0, .ref 20), (.iload 5, 2, 5, 0, .null), (.iconst 2, 1, 0, 0, .int 2), (.iadd, 1, 0, 0, .null), (.iload_n 2, 1, 2, 0, .null), (.iastore, 1, 0, 0, .null)]) (L' := [some (.ref 93), some (.int x1), some (.int x2), some (.int x3), some (.int x4), some (.int (13080 + (8 * (w.1 94 (Int32.toNatClampNeg 11)))))]) (st' := []) (w' := ((jup w4.1 94 (Int32.toNatClampNeg ((13080 + (8 * (w.1 94 (Int32.toNatClampNeg 11)))) + 2)) x2), w4.2)) (g := [jin ((13080 + (8 * (w.1 94 (Int32.toNatClampNeg 11)))) + 2) 21000]) (K := [(94, 20), (94, 20), (93, 10)]) (by decide +kernel) rfl rfl rfl hg5 (jk1 kz_94 (jk1 kz_94 (jk1 kz_93 jk0))) ?_
  refine jlw_c (P := fun w6 => Ev l G (jrm d_Model_noted 0 0) y_Model_noted (none, jR0, z) 0 0 0 0 49 [some (.ref 93), some (.int x1), some (.int x2), some (.int x3), some (.int x4), some (.int (13080 + (8 * (w.1 94 (Int32.toNatClampNeg 11)))))] [] jR0 w6) h fun w6 h => ?_
  obtain ⟨hg7, h⟩ := jgd h
  refine ev_seg (o := 10) (nL := 6) (q := 59) (xs := [(.aload_n 0, 1, 0, 0, .null), (.getfield 7, 3, 10, 0, .ref 20), (.iload 5, 2, 5, 0, .null), (.iconst 3, 1, 0, 0, .int 3), (.iadd, 1, 0, 0, .null), (.iload_n 3, 1, 3, 0, .null), (.iastore, 1, 0, 0, .null)]) (L' := [some (.ref 93), some (.int x1), some (.int x2), some (.int x3), some (.int x4), some (.int (13080 + (8 * (w.1 94 (Int32.toNatClampNeg 11)))))]) (st' := []) (w' := ((jup w6.1 94 (Int32.toNatClampNeg ((13080 + (8 * (w.1 94 (Int32.toNatClampNeg 11)))) + 3)) x3), w6.2)) (g := [jin ((13080 + (8 * (w.1 94 (Int32.toNatClampNeg 11)))) + 3) 21000]) (K := [(94, 20), (94, 20), (93, 10)]) (by decide +kernel) rfl rfl rfl hg7 (jk1 kz_94 (jk1 kz_94 (jk1 kz_93 jk0))) ?_
  refine jlw_c (P := fun w8 => Ev l G (jrm d_Model_noted 0 0) y_Model_noted (none, jR0, z) 0 0 0 0 59 [some (.ref 93), some (.int x1), some (.int x2), some (.int x3), some (.int x4), some (.int (13080 + (8 * (w.1 94 (Int32.toNatClampNeg 11)))))] [] jR0 w8) h fun w8 h => ?_
  obtain ⟨hg9, h⟩ := jgd h
  refine ev_seg (o := 10) (nL := 6) (q := 70) (xs := [(.aload_n 0, 1, 0, 0, .null), (.getfield 7, 3, 10, 0, .ref 20), (.iload 5, 2, 5, 0, .null), (.iconst 4, 1, 0, 0, .int 4), (.iadd, 1, 0, 0, .null), (.iload 4, 2, 4, 0, .null), (.iastore, 1, 0, 0, .null)]) (L' := [some (.ref 93), some (.int x1), some (.int x2), some (.int x3), some (.int x4), some (.int (13080 + (8 * (w.1 94 (Int32.toNatClampNeg 11)))))]) (st' := []) (w' := ((jup w8.1 94 (Int32.toNatClampNeg ((13080 + (8 * (w.1 94 (Int32.toNatClampNeg 11)))) + 4)) x4), w8.2)) (g := [jin ((13080 + (8 * (w.1 94 (Int32.toNatClampNeg 11)))) + 4) 21000]) (K := [(94, 20), (94, 20), (93, 10)]) (by decide +kernel) rfl rfl rfl hg9 (jk1 kz_94 (jk1 kz_94 (jk1 kz_93 jk0))) ?_
  refine jlw_c (P := fun w10 => Ev l G (jrm d_Model_noted 0 0) y_Model_noted (none, jR0, z) 0 0 0 0 70 [some (.ref 93), some (.int x1), some (.int x2), some (.int x3), some (.int x4), some (.int (13080 + (8 * (w.1 94 (Int32.toNatClampNeg 11)))))] [] jR0 w10) h fun w10 h => ?_
  obtain ⟨hg11, h⟩ := jgd h
  refine ev_seg (o := 10) (nL := 6) (q := 81) (xs := [(.aload_n 0, 1, 0, 0, .null), (.getfield 7, 3, 10, 0, .ref 20), (.bipush 11, 2, 0, 0, .int 11), (.dup2, 1, 0, 0, .null), (.iaload, 1, 0, 0, .null), (.iconst 1, 1, 0, 0, .int 1), (.iadd, 1, 0, 0, .null), (.iastore, 1, 0, 0, .null)]) (L' := [some (.ref 93), some (.int x1), some (.int x2), some (.int x3), some (.int x4), some (.int (13080 + (8 * (w.1 94 (Int32.toNatClampNeg 11)))))]) (st' := []) (w' := ((jup w10.1 94 (Int32.toNatClampNeg 11) ((w10.1 94 (Int32.toNatClampNeg 11)) + 1)), w10.2)) (g := [jin 11 21000, jin 11 21000]) (K := [(94, 20), (94, 20), (94, 20), (93, 10)]) (by decide +kernel) rfl rfl rfl hg11 (jk1 kz_94 (jk1 kz_94 (jk1 kz_94 (jk1 kz_93 jk0)))) ?_
  refine jlw_c (P := fun w12 => Ev l G (jrm d_Model_noted 0 0) y_Model_noted (none, jR0, z) 0 0 0 0 81 [some (.ref 93), some (.int x1), some (.int x2), some (.int x3), some (.int x4), some (.int (13080 + (8 * (w.1 94 (Int32.toNatClampNeg 11)))))] [] jR0 w12) h fun w12 h => ?_
  cases h
  exact ev_vret (by decide +kernel) rfl rfl rfl rfl
def f_Model_make_j72 (x1 : Int32) (x2 : Int32) (x3 : Int32) (x4 : Int32) (w : jW) : Option (Int32 × jW) :=
  if jal [jin ((240 + (12 * (w.1 94 (Int32.toNatClampNeg 3)))) + 0) 21000, jin 3 21000] = true then
  jlw ((jup w.1 94 (Int32.toNatClampNeg ((240 + (12 * (w.1 94 (Int32.toNatClampNeg 3)))) + 0)) x2), w.2) fun w8 =>
  if jal [jin ((240 + (12 * (w.1 94 (Int32.toNatClampNeg 3)))) + 1) 21000] = true then
  jlw ((jup w8.1 94 (Int32.toNatClampNeg ((240 + (12 * (w.1 94 (Int32.toNatClampNeg 3)))) + 1)) x3), w8.2) fun w10 =>
  if jal [jin ((240 + (12 * (w.1 94 (Int32.toNatClampNeg 3)))) + 2) 21000] = true then
  jlw ((jup w10.1 94 (Int32.toNatClampNeg ((240 + (12 * (w.1 94 (Int32.toNatClampNeg 3)))) + 2)) x4), w10.2) fun w12 =>
  Option.bind (f_Model_siteAt x1 0 w12) fun q13 =>
  if jal [jin ((240 + (12 * (w.1 94 (Int32.toNatClampNeg 3)))) + 3) 21000] = true then
  jlw ((jup q13.2.1 94 (Int32.toNatClampNeg ((240 + (12 * (w.1 94 (Int32.toNatClampNeg 3)))) + 3)) q13.1), q13.2.2) fun w15 =>
  if jal [jin ((240 + (12 * (w.1 94 (Int32.toNatClampNeg 3)))) + 4) 21000, jin 0 21000] = true then
  jlw ((jup w15.1 94 (Int32.toNatClampNeg ((240 + (12 * (w.1 94 (Int32.toNatClampNeg 3)))) + 4)) (w15.1 94 (Int32.toNatClampNeg 0))), w15.2) fun w17 =>
  if jal [jin ((240 + (12 * (w.1 94 (Int32.toNatClampNeg 3)))) + 5) 21000] = true then
  jlw ((jup w17.1 94 (Int32.toNatClampNeg ((240 + (12 * (w.1 94 (Int32.toNatClampNeg 3)))) + 5)) x1), w17.2) fun w19 =>
  if jal [jin ((240 + (12 * (w.1 94 (Int32.toNatClampNeg 3)))) + 7) 21000] = true then
  jlw ((jup w19.1 94 (Int32.toNatClampNeg ((240 + (12 * (w.1 94 (Int32.toNatClampNeg 3)))) + 7)) (-1)), w19.2) fun w21 =>
  if jal [jin ((240 + (12 * (w.1 94 (Int32.toNatClampNeg 3)))) + 8) 21000] = true then
  jlw ((jup w21.1 94 (Int32.toNatClampNeg ((240 + (12 * (w.1 94 (Int32.toNatClampNeg 3)))) + 8)) (-1)), w21.2) fun w23 =>
  Option.bind (f_Model_siteAt x1 0 w23) fun q24 =>
  if jal [jin 3 21000] = true then
  Option.bind (f_Model_noted 0 q24.1 (q24.2.1 94 (Int32.toNatClampNeg 3)) 0 q24.2) fun q26 =>
  if jal [jin 3 21000, jin 3 21000] = true then
  jlw ((jup q26.1 94 (Int32.toNatClampNeg 3) ((q26.1 94 (Int32.toNatClampNeg 3)) + 1)), q26.2) fun w28 =>
  if jal [jin 3 21000] = true then
  some (((w28.1 94 (Int32.toNatClampNeg 3)) - 1), w28)
  else none else none
  else none
  else none else none else none else none else none
  else none else none else none
set_option maxRecDepth 20000 in
theorem t_Model_make_j72 {l : Launch} {G : jG} (hG : jX G) {x1 : Int32} {x2 : Int32} {x3 : Int32} {x4 : Int32} {w : jW} {z : (Int32 × jW)} (h : f_Model_make_j72 x1 x2 x3 x4 w = some z) : Ev l G (jrm d_Model_make 0 0) y_Model_make (some (.int z.1), jR0, z.2) 0 0 0 0 72 [some (.ref 93), some (.int x1), some (.int x2), some (.int x3), some (.int x4), none] [] jR0 w := by
  rw [f_Model_make_j72] at h
  obtain ⟨hg7, h⟩ := jgd h
  refine ev_seg (o := 10) (nL := 6) (q := 97) (xs := [(.sipush 240, 3, 0, 0, .int 240), (.bipush 12, 2, 0, 0, .int 12), (.aload_n 0, 1, 0, 0, .null), (.getfield 7, 3, 10, 0, .ref 20), (.iconst 3, 1, 0, 0, .int 3), (.iaload, 1, 0, 0, .null), (.imul, 1, 0, 0, .null), (.iadd, 1, 0, 0, .null), (.istore 5, 2, 5, 0, .null), (.aload_n 0, 1, 0, 0, .null), (.getfield 7, 3, 10, 0, .ref 20), (.iload 5, 2, 5, 0, .null), (.iconst 0, 1, 0, 0, .int 0), (.iadd, 1, 0, 0, .null), (.iload_n 2, 1, 2, 0, .null), (.iastore, 1, 0, 0, .null)]) (L' := [some (.ref 93), some (.int x1), some (.int x2), some (.int x3), some (.int x4), some (.int (240 + (12 * (w.1 94 (Int32.toNatClampNeg 3)))))]) (st' := []) (w' := ((jup w.1 94 (Int32.toNatClampNeg ((240 + (12 * (w.1 94 (Int32.toNatClampNeg 3)))) + 0)) x2), w.2)) (g := [jin ((240 + (12 * (w.1 94 (Int32.toNatClampNeg 3)))) + 0) 21000, jin 3 21000]) (K := [(94, 20), (94, 20), (93, 10), (94, 20), (94, 20), (93, 10)]) (by decide +kernel) rfl rfl rfl hg7 (jk1 kz_94 (jk1 kz_94 (jk1 kz_93 (jk1 kz_94 (jk1 kz_94 (jk1 kz_93 jk0)))))) ?_
  refine jlw_c (P := fun w8 => Ev l G (jrm d_Model_make 0 0) y_Model_make (some (.int z.1), jR0, z.2) 0 0 0 0 97 [some (.ref 93), some (.int x1), some (.int x2), some (.int x3), some (.int x4), some (.int (240 + (12 * (w.1 94 (Int32.toNatClampNeg 3)))))] [] jR0 w8) h fun w8 h => ?_
  obtain ⟨hg9, h⟩ := jgd h
  refine ev_seg (o := 10) (nL := 6) (q := 107) (xs := [(.aload_n 0, 1, 0, 0, .null), (.getfield 7, 3, 10, 0, .ref 20), (.iload 5, 2, 5, 0, .null), (.iconst 1, 1, 0, 0, .int 1), (.iadd, 1, 0, 0, .null), (.iload_n 3, 1, 3, 0, .null), (.iastore, 1, 0, 0, .null)]) (L' := [some (.ref 93), some (.int x1), some (.int x2), some (.int x3), some (.int x4), some (.int (240 + (12 * (w.1 94 (Int32.toNatClampNeg 3)))))]) (st' := []) (w' := ((jup w8.1 94 (Int32.toNatClampNeg ((240 + (12 * (w.1 94 (Int32.toNatClampNeg 3)))) + 1)) x3), w8.2)) (g := [jin ((240 + (12 * (w.1 94 (Int32.toNatClampNeg 3)))) + 1) 21000]) (K := [(94, 20), (94, 20), (93, 10)]) (by decide +kernel) rfl rfl rfl hg9 (jk1 kz_94 (jk1 kz_94 (jk1 kz_93 jk0))) ?_
  refine jlw_c (P := fun w10 => Ev l G (jrm d_Model_make 0 0) y_Model_make (some (.int z.1), jR0, z.2) 0 0 0 0 107 [some (.ref 93), some (.int x1), some (.int x2), some (.int x3), some (.int x4), some (.int (240 + (12 * (w.1 94 (Int32.toNatClampNeg 3)))))] [] jR0 w10) h fun w10 h => ?_
  obtain ⟨hg11, h⟩ := jgd h
  refine ev_seg (o := 10) (nL := 6) (q := 118) (xs := [(.aload_n 0, 1, 0, 0, .null), (.getfield 7, 3, 10, 0, .ref 20), (.iload 5, 2, 5, 0, .null), (.iconst 2, 1, 0, 0, .int 2), (.iadd, 1, 0, 0, .null), (.iload 4, 2, 4, 0, .null), (.iastore, 1, 0, 0, .null)]) (L' := [some (.ref 93), some (.int x1), some (.int x2), some (.int x3), some (.int x4), some (.int (240 + (12 * (w.1 94 (Int32.toNatClampNeg 3)))))]) (st' := []) (w' := ((jup w10.1 94 (Int32.toNatClampNeg ((240 + (12 * (w.1 94 (Int32.toNatClampNeg 3)))) + 2)) x4), w10.2)) (g := [jin ((240 + (12 * (w.1 94 (Int32.toNatClampNeg 3)))) + 2) 21000]) (K := [(94, 20), (94, 20), (93, 10)]) (by decide +kernel) rfl rfl rfl hg11 (jk1 kz_94 (jk1 kz_94 (jk1 kz_93 jk0))) ?_
  refine jlw_c (P := fun w12 => Ev l G (jrm d_Model_make 0 0) y_Model_make (some (.int z.1), jR0, z.2) 0 0 0 0 118 [some (.ref 93), some (.int x1), some (.int x2), some (.int x3), some (.int x4), some (.int (240 + (12 * (w.1 94 (Int32.toNatClampNeg 3)))))] [] jR0 w12) h fun w12 h => ?_
  refine ev_seg (o := 10) (nL := 6) (q := 129) (xs := [(.aload_n 0, 1, 0, 0, .null), (.getfield 7, 3, 10, 0, .ref 20), (.iload 5, 2, 5, 0, .null), (.iconst 3, 1, 0, 0, .int 3), (.iadd, 1, 0, 0, .null), (.aload_n 0, 1, 0, 0, .null), (.iload_n 1, 1, 1, 0, .null), (.iconst 0, 1, 0, 0, .int 0)]) (L' := [some (.ref 93), some (.int x1), some (.int x2), some (.int x3), some (.int x4), some (.int (240 + (12 * (w.1 94 (Int32.toNatClampNeg 3)))))]) (st' := [.int 0, .int x1, .ref 93, .int ((240 + (12 * (w.1 94 (Int32.toNatClampNeg 3)))) + 3), .ref 94]) (w' := w12) (g := []) (K := [(94, 20), (93, 10)]) (by decide +kernel) rfl rfl rfl rfl (jk1 kz_94 (jk1 kz_93 jk0)) ?_
  obtain ⟨q13, hq13, h⟩ := jbe h
  refine ev_callV (ci := 10) (a := 93) (y2 := y_Model_siteAt) (o := 10) (idx := 54) (d2 := d_Model_siteAt) (n := 2) (mc2 := 0) (ms2 := 0) (As := [.int x1, .int 0]) (st := [.int ((240 + (12 * (w.1 94 (Int32.toNatClampNeg 3)))) + 3), .ref 94]) (res2 := (some (.int q13.1), jR0, q13.2)) (by decide +kernel) rfl lk_10_54 mo_Model_siteAt mv_Model_siteAt ⟨Nat.le_of_ble_eq_true rfl, Nat.le_of_ble_eq_true rfl⟩ rfl rfl kz_93 (by decide) rfl (Nat.le_of_ble_eq_true rfl) ⟨Nat.le_refl _, Nat.le_refl _⟩ hG (e_Model_siteAt hG hq13) ?_
  obtain ⟨hg14, h⟩ := jgd h
  refine ev_seg (o := 10) (nL := 6) (q := 133) (xs := [(.iastore, 1, 0, 0, .null)]) (L' := [some (.ref 93), some (.int x1), some (.int x2), some (.int x3), some (.int x4), some (.int (240 + (12 * (w.1 94 (Int32.toNatClampNeg 3)))))]) (st' := []) (w' := ((jup q13.2.1 94 (Int32.toNatClampNeg ((240 + (12 * (w.1 94 (Int32.toNatClampNeg 3)))) + 3)) q13.1), q13.2.2)) (g := [jin ((240 + (12 * (w.1 94 (Int32.toNatClampNeg 3)))) + 3) 21000]) (K := [(94, 20)]) (by decide +kernel) rfl rfl rfl hg14 (jk1 kz_94 jk0) ?_
  refine jlw_c (P := fun w15 => Ev l G (jrm d_Model_make 0 0) y_Model_make (some (.int z.1), jR0, z.2) 0 0 0 0 133 [some (.ref 93), some (.int x1), some (.int x2), some (.int x3), some (.int x4), some (.int (240 + (12 * (w.1 94 (Int32.toNatClampNeg 3)))))] [] jR0 w15) h fun w15 h => ?_
  obtain ⟨hg16, h⟩ := jgd h
  refine ev_seg (o := 10) (nL := 6) (q := 148) (xs := [(.aload_n 0, 1, 0, 0, .null), (.getfield 7, 3, 10, 0, .ref 20), (.iload 5, 2, 5, 0, .null), (.iconst 4, 1, 0, 0, .int 4), (.iadd, 1, 0, 0, .null), (.aload_n 0, 1, 0, 0, .null), (.getfield 7, 3, 10, 0, .ref 20), (.iconst 0, 1, 0, 0, .int 0), (.iaload, 1, 0, 0, .null), (.iastore, 1, 0, 0, .null)]) (L' := [some (.ref 93), some (.int x1), some (.int x2), some (.int x3), some (.int x4), some (.int (240 + (12 * (w.1 94 (Int32.toNatClampNeg 3)))))]) (st' := []) (w' := ((jup w15.1 94 (Int32.toNatClampNeg ((240 + (12 * (w.1 94 (Int32.toNatClampNeg 3)))) + 4)) (w15.1 94 (Int32.toNatClampNeg 0))), w15.2)) (g := [jin ((240 + (12 * (w.1 94 (Int32.toNatClampNeg 3)))) + 4) 21000, jin 0 21000]) (K := [(94, 20), (94, 20), (94, 20), (93, 10), (94, 20), (93, 10)]) (by decide +kernel) rfl rfl rfl hg16 (jk1 kz_94 (jk1 kz_94 (jk1 kz_94 (jk1 kz_93 (jk1 kz_94 (jk1 kz_93 jk0)))))) ?_
  refine jlw_c (P := fun w17 => Ev l G (jrm d_Model_make 0 0) y_Model_make (some (.int z.1), jR0, z.2) 0 0 0 0 148 [some (.ref 93), some (.int x1), some (.int x2), some (.int x3), some (.int x4), some (.int (240 + (12 * (w.1 94 (Int32.toNatClampNeg 3)))))] [] jR0 w17) h fun w17 h => ?_
  obtain ⟨hg18, h⟩ := jgd h
  refine ev_seg (o := 10) (nL := 6) (q := 158) (xs := [(.aload_n 0, 1, 0, 0, .null), (.getfield 7, 3, 10, 0, .ref 20), (.iload 5, 2, 5, 0, .null), (.iconst 5, 1, 0, 0, .int 5), (.iadd, 1, 0, 0, .null), (.iload_n 1, 1, 1, 0, .null), (.iastore, 1, 0, 0, .null)]) (L' := [some (.ref 93), some (.int x1), some (.int x2), some (.int x3), some (.int x4), some (.int (240 + (12 * (w.1 94 (Int32.toNatClampNeg 3)))))]) (st' := []) (w' := ((jup w17.1 94 (Int32.toNatClampNeg ((240 + (12 * (w.1 94 (Int32.toNatClampNeg 3)))) + 5)) x1), w17.2)) (g := [jin ((240 + (12 * (w.1 94 (Int32.toNatClampNeg 3)))) + 5) 21000]) (K := [(94, 20), (94, 20), (93, 10)]) (by decide +kernel) rfl rfl rfl hg18 (jk1 kz_94 (jk1 kz_94 (jk1 kz_93 jk0))) ?_
  refine jlw_c (P := fun w19 => Ev l G (jrm d_Model_make 0 0) y_Model_make (some (.int z.1), jR0, z.2) 0 0 0 0 158 [some (.ref 93), some (.int x1), some (.int x2), some (.int x3), some (.int x4), some (.int (240 + (12 * (w.1 94 (Int32.toNatClampNeg 3)))))] [] jR0 w19) h fun w19 h => ?_
  obtain ⟨hg20, h⟩ := jgd h
  refine ev_seg (o := 10) (nL := 6) (q := 169) (xs := [(.aload_n 0, 1, 0, 0, .null), (.getfield 7, 3, 10, 0, .ref 20), (.iload 5, 2, 5, 0, .null), (.bipush 7, 2, 0, 0, .int 7), (.iadd, 1, 0, 0, .null), (.iconst (-1), 1, 0, 0, .int (-1)), (.iastore, 1, 0, 0, .null)]) (L' := [some (.ref 93), some (.int x1), some (.int x2), some (.int x3), some (.int x4), some (.int (240 + (12 * (w.1 94 (Int32.toNatClampNeg 3)))))]) (st' := []) (w' := ((jup w19.1 94 (Int32.toNatClampNeg ((240 + (12 * (w.1 94 (Int32.toNatClampNeg 3)))) + 7)) (-1)), w19.2)) (g := [jin ((240 + (12 * (w.1 94 (Int32.toNatClampNeg 3)))) + 7) 21000]) (K := [(94, 20), (94, 20), (93, 10)]) (by decide +kernel) rfl rfl rfl hg20 (jk1 kz_94 (jk1 kz_94 (jk1 kz_93 jk0))) ?_
  refine jlw_c (P := fun w21 => Ev l G (jrm d_Model_make 0 0) y_Model_make (some (.int z.1), jR0, z.2) 0 0 0 0 169 [some (.ref 93), some (.int x1), some (.int x2), some (.int x3), some (.int x4), some (.int (240 + (12 * (w.1 94 (Int32.toNatClampNeg 3)))))] [] jR0 w21) h fun w21 h => ?_
  obtain ⟨hg22, h⟩ := jgd h
  refine ev_seg (o := 10) (nL := 6) (q := 180) (xs := [(.aload_n 0, 1, 0, 0, .null), (.getfield 7, 3, 10, 0, .ref 20), (.iload 5, 2, 5, 0, .null), (.bipush 8, 2, 0, 0, .int 8), (.iadd, 1, 0, 0, .null), (.iconst (-1), 1, 0, 0, .int (-1)), (.iastore, 1, 0, 0, .null)]) (L' := [some (.ref 93), some (.int x1), some (.int x2), some (.int x3), some (.int x4), some (.int (240 + (12 * (w.1 94 (Int32.toNatClampNeg 3)))))]) (st' := []) (w' := ((jup w21.1 94 (Int32.toNatClampNeg ((240 + (12 * (w.1 94 (Int32.toNatClampNeg 3)))) + 8)) (-1)), w21.2)) (g := [jin ((240 + (12 * (w.1 94 (Int32.toNatClampNeg 3)))) + 8) 21000]) (K := [(94, 20), (94, 20), (93, 10)]) (by decide +kernel) rfl rfl rfl hg22 (jk1 kz_94 (jk1 kz_94 (jk1 kz_93 jk0))) ?_
  refine jlw_c (P := fun w23 => Ev l G (jrm d_Model_make 0 0) y_Model_make (some (.int z.1), jR0, z.2) 0 0 0 0 180 [some (.ref 93), some (.int x1), some (.int x2), some (.int x3), some (.int x4), some (.int (240 + (12 * (w.1 94 (Int32.toNatClampNeg 3)))))] [] jR0 w23) h fun w23 h => ?_
  refine ev_seg (o := 10) (nL := 6) (q := 185) (xs := [(.aload_n 0, 1, 0, 0, .null), (.iconst 0, 1, 0, 0, .int 0), (.aload_n 0, 1, 0, 0, .null), (.iload_n 1, 1, 1, 0, .null), (.iconst 0, 1, 0, 0, .int 0)]) (L' := [some (.ref 93), some (.int x1), some (.int x2), some (.int x3), some (.int x4), some (.int (240 + (12 * (w.1 94 (Int32.toNatClampNeg 3)))))]) (st' := [.int 0, .int x1, .ref 93, .int 0, .ref 93]) (w' := w23) (g := []) (K := []) (by decide +kernel) rfl rfl rfl rfl jk0 ?_
  obtain ⟨q24, hq24, h⟩ := jbe h
  refine ev_callV (ci := 10) (a := 93) (y2 := y_Model_siteAt) (o := 10) (idx := 54) (d2 := d_Model_siteAt) (n := 2) (mc2 := 0) (ms2 := 0) (As := [.int x1, .int 0]) (st := [.int 0, .ref 93]) (res2 := (some (.int q24.1), jR0, q24.2)) (by decide +kernel) rfl lk_10_54 mo_Model_siteAt mv_Model_siteAt ⟨Nat.le_of_ble_eq_true rfl, Nat.le_of_ble_eq_true rfl⟩ rfl rfl kz_93 (by decide) rfl (Nat.le_of_ble_eq_true rfl) ⟨Nat.le_refl _, Nat.le_refl _⟩ hG (e_Model_siteAt hG hq24) ?_
  obtain ⟨hg25, h⟩ := jgd h
  refine ev_seg (o := 10) (nL := 6) (q := 195) (xs := [(.aload_n 0, 1, 0, 0, .null), (.getfield 7, 3, 10, 0, .ref 20), (.iconst 3, 1, 0, 0, .int 3), (.iaload, 1, 0, 0, .null), (.iconst 0, 1, 0, 0, .int 0)]) (L' := [some (.ref 93), some (.int x1), some (.int x2), some (.int x3), some (.int x4), some (.int (240 + (12 * (w.1 94 (Int32.toNatClampNeg 3)))))]) (st' := [.int 0, .int (q24.2.1 94 (Int32.toNatClampNeg 3)), .int q24.1, .int 0, .ref 93]) (w' := q24.2) (g := [jin 3 21000]) (K := [(94, 20), (94, 20), (93, 10)]) (by decide +kernel) rfl rfl rfl hg25 (jk1 kz_94 (jk1 kz_94 (jk1 kz_93 jk0))) ?_
  obtain ⟨q26, hq26, h⟩ := jbe h
  refine ev_callV (ci := 10) (a := 93) (y2 := y_Model_noted) (o := 10) (idx := 62) (d2 := d_Model_noted) (n := 4) (mc2 := 0) (ms2 := 0) (As := [.int 0, .int q24.1, .int (q24.2.1 94 (Int32.toNatClampNeg 3)), .int 0]) (st := []) (res2 := (none, jR0, q26)) (by decide +kernel) rfl lk_10_62 mo_Model_noted mv_Model_noted ⟨Nat.le_of_ble_eq_true rfl, Nat.le_of_ble_eq_true rfl⟩ rfl rfl kz_93 (by decide) rfl (Nat.le_of_ble_eq_true rfl) ⟨Nat.le_refl _, Nat.le_refl _⟩ hG (e_Model_noted hG hq26) ?_
  obtain ⟨hg27, h⟩ := jgd h
  refine ev_seg (o := 10) (nL := 6) (q := 208) (xs := [(.aload_n 0, 1, 0, 0, .null), (.getfield 7, 3, 10, 0, .ref 20), (.iconst 3, 1, 0, 0, .int 3), (.dup2, 1, 0, 0, .null), (.iaload, 1, 0, 0, .null), (.iconst 1, 1, 0, 0, .int 1), (.iadd, 1, 0, 0, .null), (.iastore, 1, 0, 0, .null)]) (L' := [some (.ref 93), some (.int x1), some (.int x2), some (.int x3), some (.int x4), some (.int (240 + (12 * (w.1 94 (Int32.toNatClampNeg 3)))))]) (st' := []) (w' := ((jup q26.1 94 (Int32.toNatClampNeg 3) ((q26.1 94 (Int32.toNatClampNeg 3)) + 1)), q26.2)) (g := [jin 3 21000, jin 3 21000]) (K := [(94, 20), (94, 20), (94, 20), (93, 10)]) (by decide +kernel) rfl rfl rfl hg27 (jk1 kz_94 (jk1 kz_94 (jk1 kz_94 (jk1 kz_93 jk0)))) ?_
  refine jlw_c (P := fun w28 => Ev l G (jrm d_Model_make 0 0) y_Model_make (some (.int z.1), jR0, z.2) 0 0 0 0 208 [some (.ref 93), some (.int x1), some (.int x2), some (.int x3), some (.int x4), some (.int (240 + (12 * (w.1 94 (Int32.toNatClampNeg 3)))))] [] jR0 w28) h fun w28 h => ?_
  obtain ⟨hg29, h⟩ := jgd h
  refine ev_seg (o := 10) (nL := 6) (q := 216) (xs := [(.aload_n 0, 1, 0, 0, .null), (.getfield 7, 3, 10, 0, .ref 20), (.iconst 3, 1, 0, 0, .int 3), (.iaload, 1, 0, 0, .null), (.iconst 1, 1, 0, 0, .int 1), (.isub, 1, 0, 0, .null)]) (L' := [some (.ref 93), some (.int x1), some (.int x2), some (.int x3), some (.int x4), some (.int (240 + (12 * (w.1 94 (Int32.toNatClampNeg 3)))))]) (st' := [.int ((w28.1 94 (Int32.toNatClampNeg 3)) - 1)]) (w' := w28) (g := [jin 3 21000]) (K := [(94, 20), (94, 20), (93, 10)]) (by decide +kernel) rfl rfl rfl hg29 (jk1 kz_94 (jk1 kz_94 (jk1 kz_93 jk0))) ?_
  cases h
  exact ev_iret (by decide +kernel) rfl rfl rfl rfl
def f_Model_make (x1 : Int32) (x2 : Int32) (x3 : Int32) (x4 : Int32) (w : jW) : Option (Int32 × jW) :=
  Option.bind (f_Model_isSite x1 w) fun q1 =>
  if q1.1 = 0 then
    some ((-1), q1.2)
  else
    Option.bind (f_Model_isIn x2 0 3 q1.2) fun q2 =>
    if q2.1 = 0 then
      some ((-1), q2.2)
    else
      Option.bind (f_Model_isIn x3 1 200 q2.2) fun q3 =>
      if q3.1 = 0 then
        some ((-1), q3.2)
      else
        Option.bind (f_Model_isIn x4 1 500 q3.2) fun q4 =>
        if q4.1 = 0 then
          some ((-1), q4.2)
        else
          if jal [jin 3 21000] = true then
          if (q4.2.1 94 (Int32.toNatClampNeg 3)) = 40 then
            some ((-1), q4.2)
          else
            if jal [jin 0 21000] = true then
            if (q4.2.1 94 (Int32.toNatClampNeg 0)) ≤ 0 then
              f_Model_make_j72 x1 x2 x3 x4 q4.2
            else
              Option.bind (f_Model_siteAt x1 1 q4.2) fun q30 =>
              if q30.1 = 1 then
                f_Model_make_j72 x1 x2 x3 x4 q30.2
              else
                some ((-1), q30.2)
            else none
          else none
set_option maxRecDepth 20000 in
theorem e_Model_make {l : Launch} {G : jG} (hG : jX G) {x1 : Int32} {x2 : Int32} {x3 : Int32} {x4 : Int32} {w : jW} {z : (Int32 × jW)} (h : f_Model_make x1 x2 x3 x4 w = some z) : Ct l G y_Model_make d_Model_make 0 0 [.ref 93, .int x1, .int x2, .int x3, .int x4] jR0 w (some (.int z.1), jR0, z.2) := by
  rw [f_Model_make] at h
  refine Ct.of (L := [some (.ref 93), some (.int x1), some (.int x2), some (.int x3), some (.int x4), none]) (by decide) (Nat.le_of_ble_eq_true rfl) rfl ?_
  refine ev_seg (o := 10) (nL := 6) (q := 2) (xs := [(.aload_n 0, 1, 0, 0, .null), (.iload_n 1, 1, 1, 0, .null)]) (L' := [some (.ref 93), some (.int x1), some (.int x2), some (.int x3), some (.int x4), none]) (st' := [.int x1, .ref 93]) (w' := w) (g := []) (K := []) (by decide +kernel) rfl rfl rfl rfl jk0 ?_
  obtain ⟨q1, hq1, h⟩ := jbe h
  refine ev_callV (ci := 10) (a := 93) (y2 := y_Model_isSite) (o := 10) (idx := 50) (d2 := d_Model_isSite) (n := 1) (mc2 := 0) (ms2 := 0) (As := [.int x1]) (st := []) (res2 := (some (.int q1.1), jR0, q1.2)) (by decide +kernel) rfl lk_10_50 mo_Model_isSite mv_Model_isSite ⟨Nat.le_of_ble_eq_true rfl, Nat.le_of_ble_eq_true rfl⟩ rfl rfl kz_93 (by decide) rfl (Nat.le_of_ble_eq_true rfl) ⟨Nat.le_refl _, Nat.le_refl _⟩ hG (e_Model_isSite hG hq1) ?_
  refine ev_if_eq (off := 65) (tgt := 70) (by decide +kernel) (by decide) (fun c37 => ?_) (fun c37 => ?_)
  · replace h := jpos c37 h
    refine ev_seg (o := 10) (nL := 6) (q := 71) (xs := [(.iconst (-1), 1, 0, 0, .int (-1))]) (L' := [some (.ref 93), some (.int x1), some (.int x2), some (.int x3), some (.int x4), none]) (st' := [.int (-1)]) (w' := q1.2) (g := []) (K := []) (by decide +kernel) rfl rfl rfl rfl jk0 ?_
    cases h
    exact ev_iret (by decide +kernel) rfl rfl rfl rfl
  · replace h := jneg c37 h
    refine ev_seg (o := 10) (nL := 6) (q := 11) (xs := [(.iload_n 2, 1, 2, 0, .null), (.iconst 0, 1, 0, 0, .int 0), (.iconst 3, 1, 0, 0, .int 3)]) (L' := [some (.ref 93), some (.int x1), some (.int x2), some (.int x3), some (.int x4), none]) (st' := [.int 3, .int 0, .int x2]) (w' := q1.2) (g := []) (K := []) (by decide +kernel) rfl rfl rfl rfl jk0 ?_
    obtain ⟨q2, hq2, h⟩ := jbe h
    refine ev_callS (y2 := y_Model_isIn) (o := 10) (idx := 46) (d2 := d_Model_isIn) (n := 3) (mc2 := 0) (ms2 := 0) (As := [.int x2, .int 0, .int 3]) (st := []) (res2 := (some (.int q2.1), jR0, q2.2)) (by decide +kernel) rfl lk_10_46 mo_Model_isIn ms_Model_isIn ⟨Nat.le_of_ble_eq_true rfl, Nat.le_of_ble_eq_true rfl⟩ rfl rfl (Nat.le_of_ble_eq_true rfl) ⟨Nat.le_refl _, Nat.le_refl _⟩ hG (e_Model_isIn hG hq2) ?_
    refine ev_if_eq (off := 56) (tgt := 70) (by decide +kernel) (by decide) (fun c36 => ?_) (fun c36 => ?_)
    · replace h := jpos c36 h
      refine ev_seg (o := 10) (nL := 6) (q := 71) (xs := [(.iconst (-1), 1, 0, 0, .int (-1))]) (L' := [some (.ref 93), some (.int x1), some (.int x2), some (.int x3), some (.int x4), none]) (st' := [.int (-1)]) (w' := q2.2) (g := []) (K := []) (by decide +kernel) rfl rfl rfl rfl jk0 ?_
      cases h
      exact ev_iret (by decide +kernel) rfl rfl rfl rfl
    · replace h := jneg c36 h
      refine ev_seg (o := 10) (nL := 6) (q := 22) (xs := [(.iload_n 3, 1, 3, 0, .null), (.iconst 1, 1, 0, 0, .int 1), (.sipush 200, 3, 0, 0, .int 200)]) (L' := [some (.ref 93), some (.int x1), some (.int x2), some (.int x3), some (.int x4), none]) (st' := [.int 200, .int 1, .int x3]) (w' := q2.2) (g := []) (K := []) (by decide +kernel) rfl rfl rfl rfl jk0 ?_
      obtain ⟨q3, hq3, h⟩ := jbe h
      refine ev_callS (y2 := y_Model_isIn) (o := 10) (idx := 46) (d2 := d_Model_isIn) (n := 3) (mc2 := 0) (ms2 := 0) (As := [.int x3, .int 1, .int 200]) (st := []) (res2 := (some (.int q3.1), jR0, q3.2)) (by decide +kernel) rfl lk_10_46 mo_Model_isIn ms_Model_isIn ⟨Nat.le_of_ble_eq_true rfl, Nat.le_of_ble_eq_true rfl⟩ rfl rfl (Nat.le_of_ble_eq_true rfl) ⟨Nat.le_refl _, Nat.le_refl _⟩ hG (e_Model_isIn hG hq3) ?_
      refine ev_if_eq (off := 45) (tgt := 70) (by decide +kernel) (by decide) (fun c35 => ?_) (fun c35 => ?_)
      · replace h := jpos c35 h
        refine ev_seg (o := 10) (nL := 6) (q := 71) (xs := [(.iconst (-1), 1, 0, 0, .int (-1))]) (L' := [some (.ref 93), some (.int x1), some (.int x2), some (.int x3), some (.int x4), none]) (st' := [.int (-1)]) (w' := q3.2) (g := []) (K := []) (by decide +kernel) rfl rfl rfl rfl jk0 ?_
        cases h
        exact ev_iret (by decide +kernel) rfl rfl rfl rfl
      · replace h := jneg c35 h
        refine ev_seg (o := 10) (nL := 6) (q := 34) (xs := [(.iload 4, 2, 4, 0, .null), (.iconst 1, 1, 0, 0, .int 1), (.sipush 500, 3, 0, 0, .int 500)]) (L' := [some (.ref 93), some (.int x1), some (.int x2), some (.int x3), some (.int x4), none]) (st' := [.int 500, .int 1, .int x4]) (w' := q3.2) (g := []) (K := []) (by decide +kernel) rfl rfl rfl rfl jk0 ?_
        obtain ⟨q4, hq4, h⟩ := jbe h
        refine ev_callS (y2 := y_Model_isIn) (o := 10) (idx := 46) (d2 := d_Model_isIn) (n := 3) (mc2 := 0) (ms2 := 0) (As := [.int x4, .int 1, .int 500]) (st := []) (res2 := (some (.int q4.1), jR0, q4.2)) (by decide +kernel) rfl lk_10_46 mo_Model_isIn ms_Model_isIn ⟨Nat.le_of_ble_eq_true rfl, Nat.le_of_ble_eq_true rfl⟩ rfl rfl (Nat.le_of_ble_eq_true rfl) ⟨Nat.le_refl _, Nat.le_refl _⟩ hG (e_Model_isIn hG hq4) ?_
        refine ev_if_eq (off := 33) (tgt := 70) (by decide +kernel) (by decide) (fun c34 => ?_) (fun c34 => ?_)
        · replace h := jpos c34 h
          refine ev_seg (o := 10) (nL := 6) (q := 71) (xs := [(.iconst (-1), 1, 0, 0, .int (-1))]) (L' := [some (.ref 93), some (.int x1), some (.int x2), some (.int x3), some (.int x4), none]) (st' := [.int (-1)]) (w' := q4.2) (g := []) (K := []) (by decide +kernel) rfl rfl rfl rfl jk0 ?_
          cases h
          exact ev_iret (by decide +kernel) rfl rfl rfl rfl
        · replace h := jneg c34 h
          obtain ⟨hg5, h⟩ := jgd h
          refine ev_seg (o := 10) (nL := 6) (q := 48) (xs := [(.aload_n 0, 1, 0, 0, .null), (.getfield 7, 3, 10, 0, .ref 20), (.iconst 3, 1, 0, 0, .int 3), (.iaload, 1, 0, 0, .null), (.bipush 40, 2, 0, 0, .int 40)]) (L' := [some (.ref 93), some (.int x1), some (.int x2), some (.int x3), some (.int x4), none]) (st' := [.int 40, .int (q4.2.1 94 (Int32.toNatClampNeg 3))]) (w' := q4.2) (g := [jin 3 21000]) (K := [(94, 20), (94, 20), (93, 10)]) (by decide +kernel) rfl rfl rfl hg5 (jk1 kz_94 (jk1 kz_94 (jk1 kz_93 jk0))) ?_
          refine ev_icmp_eq (off := 22) (tgt := 70) (by decide +kernel) (by decide) (fun c33 => ?_) (fun c33 => ?_)
          · replace h := jpos c33 h
            refine ev_seg (o := 10) (nL := 6) (q := 71) (xs := [(.iconst (-1), 1, 0, 0, .int (-1))]) (L' := [some (.ref 93), some (.int x1), some (.int x2), some (.int x3), some (.int x4), none]) (st' := [.int (-1)]) (w' := q4.2) (g := []) (K := []) (by decide +kernel) rfl rfl rfl rfl jk0 ?_
            cases h
            exact ev_iret (by decide +kernel) rfl rfl rfl rfl
          · replace h := jneg c33 h
            obtain ⟨hg6, h⟩ := jgd h
            refine ev_seg (o := 10) (nL := 6) (q := 57) (xs := [(.aload_n 0, 1, 0, 0, .null), (.getfield 7, 3, 10, 0, .ref 20), (.iconst 0, 1, 0, 0, .int 0), (.iaload, 1, 0, 0, .null)]) (L' := [some (.ref 93), some (.int x1), some (.int x2), some (.int x3), some (.int x4), none]) (st' := [.int (q4.2.1 94 (Int32.toNatClampNeg 0))]) (w' := q4.2) (g := [jin 0 21000]) (K := [(94, 20), (94, 20), (93, 10)]) (by decide +kernel) rfl rfl rfl hg6 (jk1 kz_94 (jk1 kz_94 (jk1 kz_93 jk0))) ?_
            refine ev_if_le (off := 15) (tgt := 72) (by decide +kernel) (by decide) (fun c32 => ?_) (fun c32 => ?_)
            · replace h := jpos c32 h
              refine ev_mask [true, true, true, true, true, false] ?_
              exact t_Model_make_j72 hG h
            · replace h := jneg c32 h
              refine ev_seg (o := 10) (nL := 6) (q := 63) (xs := [(.aload_n 0, 1, 0, 0, .null), (.iload_n 1, 1, 1, 0, .null), (.iconst 1, 1, 0, 0, .int 1)]) (L' := [some (.ref 93), some (.int x1), some (.int x2), some (.int x3), some (.int x4), none]) (st' := [.int 1, .int x1, .ref 93]) (w' := q4.2) (g := []) (K := []) (by decide +kernel) rfl rfl rfl rfl jk0 ?_
              obtain ⟨q30, hq30, h⟩ := jbe h
              refine ev_callV (ci := 10) (a := 93) (y2 := y_Model_siteAt) (o := 10) (idx := 54) (d2 := d_Model_siteAt) (n := 2) (mc2 := 0) (ms2 := 0) (As := [.int x1, .int 1]) (st := []) (res2 := (some (.int q30.1), jR0, q30.2)) (by decide +kernel) rfl lk_10_54 mo_Model_siteAt mv_Model_siteAt ⟨Nat.le_of_ble_eq_true rfl, Nat.le_of_ble_eq_true rfl⟩ rfl rfl kz_93 (by decide) rfl (Nat.le_of_ble_eq_true rfl) ⟨Nat.le_refl _, Nat.le_refl _⟩ hG (e_Model_siteAt hG hq30) ?_
              refine ev_seg (o := 10) (nL := 6) (q := 67) (xs := [(.iconst 1, 1, 0, 0, .int 1)]) (L' := [some (.ref 93), some (.int x1), some (.int x2), some (.int x3), some (.int x4), none]) (st' := [.int 1, .int q30.1]) (w' := q30.2) (g := []) (K := []) (by decide +kernel) rfl rfl rfl rfl jk0 ?_
              refine ev_icmp_eq (off := 5) (tgt := 72) (by decide +kernel) (by decide) (fun c31 => ?_) (fun c31 => ?_)
              · replace h := jpos c31 h
                refine ev_mask [true, true, true, true, true, false] ?_
                exact t_Model_make_j72 hG h
              · replace h := jneg c31 h
                refine ev_seg (o := 10) (nL := 6) (q := 71) (xs := [(.iconst (-1), 1, 0, 0, .int (-1))]) (L' := [some (.ref 93), some (.int x1), some (.int x2), some (.int x3), some (.int x4), none]) (st' := [.int (-1)]) (w' := q30.2) (g := []) (K := []) (by decide +kernel) rfl rfl rfl rfl jk0 ?_
                cases h
                exact ev_iret (by decide +kernel) rfl rfl rfl rfl
def f_Model_whereOf_h47 : Nat → Int32 → Int32 → Int32 → Int32 → jW → Option (Int32 × jW)
  | 0, _, _, _, _, _ => none
  | n + 1, x1, x2, x3, x4, w =>
  if jal [jin 4 21000] = true then
  if x4 < (w.1 94 (Int32.toNatClampNeg 4)) then
    Option.bind (f_Model_moveAt x4 0 w) fun q5 =>
    if q5.1 = x1 then
      Option.bind (f_Model_moveAt x4 1 q5.2) fun q6 =>
      if q6.1 ≤ x2 then
        Option.bind (f_Model_moveAt x4 4 q6.2) fun q7 =>
        if x2 < q7.1 then
          (f_Model_whereOf_h47 n) x1 x2 100 (x4 + 1) q7.2
        else
          Option.bind (f_Model_moveAt x4 3 q7.2) fun q8 =>
          (f_Model_whereOf_h47 n) x1 x2 q8.1 (x4 + 1) q8.2
      else
        (f_Model_whereOf_h47 n) x1 x2 x3 (x4 + 1) q6.2
    else
      (f_Model_whereOf_h47 n) x1 x2 x3 (x4 + 1) q5.2
  else
    some (x3, w)
  else none
set_option maxRecDepth 20000 in
theorem t_Model_whereOf_h47 {l : Launch} {G : jG} (hG : jX G) : ∀ (n : Nat) (x1 : Int32) (x2 : Int32) (x3 : Int32) (x4 : Int32) (w : jW) (z : (Int32 × jW)), f_Model_whereOf_h47 n x1 x2 x3 x4 w = some z → Ev l G (jrm d_Model_whereOf 0 0) y_Model_whereOf (some (.int z.1), jR0, z.2) 0 0 0 0 47 [some (.ref 93), some (.int x1), some (.int x2), some (.int x3), some (.int x4)] [] jR0 w := by
  intro n
  induction n with
  | zero => intro x1 x2 x3 x4 w z h; simp only [f_Model_whereOf_h47] at h; cases h
  | succ n ih =>
    intro x1 x2 x3 x4 w z h
    rw [f_Model_whereOf_h47] at h
    obtain ⟨hg4, h⟩ := jgd h
    refine ev_seg (o := 10) (nL := 5) (q := 55) (xs := [(.iload 4, 2, 4, 0, .null), (.aload_n 0, 1, 0, 0, .null), (.getfield 7, 3, 10, 0, .ref 20), (.iconst 4, 1, 0, 0, .int 4), (.iaload, 1, 0, 0, .null)]) (L' := [some (.ref 93), some (.int x1), some (.int x2), some (.int x3), some (.int x4)]) (st' := [.int (w.1 94 (Int32.toNatClampNeg 4)), .int x4]) (w' := w) (g := [jin 4 21000]) (K := [(94, 20), (94, 20), (93, 10)]) (by decide +kernel) rfl rfl rfl hg4 (jk1 kz_94 (jk1 kz_94 (jk1 kz_93 jk0))) ?_
    refine ev_icmp_ge (off := 58) (tgt := 113) (by decide +kernel) (by decide) (fun c12 => ?_) (fun c12 => ?_)
    · replace h := jneg c12 h
      refine ev_seg (o := 10) (nL := 5) (q := 114) (xs := [(.iload_n 3, 1, 3, 0, .null)]) (L' := [some (.ref 93), some (.int x1), some (.int x2), some (.int x3), some (.int x4)]) (st' := [.int x3]) (w' := w) (g := []) (K := []) (by decide +kernel) rfl rfl rfl rfl jk0 ?_
      cases h
      exact ev_iret (by decide +kernel) rfl rfl rfl rfl
    · replace h := jpos c12 h
      refine ev_seg (o := 10) (nL := 5) (q := 62) (xs := [(.aload_n 0, 1, 0, 0, .null), (.iload 4, 2, 4, 0, .null), (.iconst 0, 1, 0, 0, .int 0)]) (L' := [some (.ref 93), some (.int x1), some (.int x2), some (.int x3), some (.int x4)]) (st' := [.int 0, .int x4, .ref 93]) (w' := w) (g := []) (K := []) (by decide +kernel) rfl rfl rfl rfl jk0 ?_
      obtain ⟨q5, hq5, h⟩ := jbe h
      refine ev_callV (ci := 10) (a := 93) (y2 := y_Model_moveAt) (o := 10) (idx := 69) (d2 := d_Model_moveAt) (n := 2) (mc2 := 0) (ms2 := 0) (As := [.int x4, .int 0]) (st := []) (res2 := (some (.int q5.1), jR0, q5.2)) (by decide +kernel) rfl lk_10_69 mo_Model_moveAt mv_Model_moveAt ⟨Nat.le_of_ble_eq_true rfl, Nat.le_of_ble_eq_true rfl⟩ rfl rfl kz_93 (by decide) rfl (Nat.le_of_ble_eq_true rfl) ⟨Nat.le_refl _, Nat.le_refl _⟩ hG (e_Model_moveAt hG hq5) ?_
      refine ev_seg (o := 10) (nL := 5) (q := 66) (xs := [(.iload_n 1, 1, 1, 0, .null)]) (L' := [some (.ref 93), some (.int x1), some (.int x2), some (.int x3), some (.int x4)]) (st' := [.int x1, .int q5.1]) (w' := q5.2) (g := []) (K := []) (by decide +kernel) rfl rfl rfl rfl jk0 ?_
      refine ev_icmp_ne (off := 41) (tgt := 107) (by decide +kernel) (by decide) (fun c11 => ?_) (fun c11 => ?_)
      · replace h := jneg c11 h
        refine ev_seg (o := 10) (nL := 5) (q := 47) (xs := [(.iinc 4 1, 3, 4, 0, .int 1), (.goto (-63), 3, 0, 0, .null)]) (L' := [some (.ref 93), some (.int x1), some (.int x2), some (.int x3), some (.int (x4 + 1))]) (st' := []) (w' := q5.2) (g := []) (K := []) (by decide +kernel) rfl rfl rfl rfl jk0 ?_
        refine ev_mask [true, true, true, true, true] ?_
        exact ih _ _ _ _ _ _ h
      · replace h := jpos c11 h
        refine ev_seg (o := 10) (nL := 5) (q := 73) (xs := [(.aload_n 0, 1, 0, 0, .null), (.iload 4, 2, 4, 0, .null), (.iconst 1, 1, 0, 0, .int 1)]) (L' := [some (.ref 93), some (.int x1), some (.int x2), some (.int x3), some (.int x4)]) (st' := [.int 1, .int x4, .ref 93]) (w' := q5.2) (g := []) (K := []) (by decide +kernel) rfl rfl rfl rfl jk0 ?_
        obtain ⟨q6, hq6, h⟩ := jbe h
        refine ev_callV (ci := 10) (a := 93) (y2 := y_Model_moveAt) (o := 10) (idx := 69) (d2 := d_Model_moveAt) (n := 2) (mc2 := 0) (ms2 := 0) (As := [.int x4, .int 1]) (st := []) (res2 := (some (.int q6.1), jR0, q6.2)) (by decide +kernel) rfl lk_10_69 mo_Model_moveAt mv_Model_moveAt ⟨Nat.le_of_ble_eq_true rfl, Nat.le_of_ble_eq_true rfl⟩ rfl rfl kz_93 (by decide) rfl (Nat.le_of_ble_eq_true rfl) ⟨Nat.le_refl _, Nat.le_refl _⟩ hG (e_Model_moveAt hG hq6) ?_
        refine ev_seg (o := 10) (nL := 5) (q := 77) (xs := [(.iload_n 2, 1, 2, 0, .null)]) (L' := [some (.ref 93), some (.int x1), some (.int x2), some (.int x3), some (.int x4)]) (st' := [.int x2, .int q6.1]) (w' := q6.2) (g := []) (K := []) (by decide +kernel) rfl rfl rfl rfl jk0 ?_
        refine ev_icmp_le (off := 6) (tgt := 83) (by decide +kernel) (by decide) (fun c10 => ?_) (fun c10 => ?_)
        · replace h := jpos c10 h
          refine ev_seg (o := 10) (nL := 5) (q := 88) (xs := [(.iload_n 2, 1, 2, 0, .null), (.aload_n 0, 1, 0, 0, .null), (.iload 4, 2, 4, 0, .null), (.iconst 4, 1, 0, 0, .int 4)]) (L' := [some (.ref 93), some (.int x1), some (.int x2), some (.int x3), some (.int x4)]) (st' := [.int 4, .int x4, .ref 93, .int x2]) (w' := q6.2) (g := []) (K := []) (by decide +kernel) rfl rfl rfl rfl jk0 ?_
          obtain ⟨q7, hq7, h⟩ := jbe h
          refine ev_callV (ci := 10) (a := 93) (y2 := y_Model_moveAt) (o := 10) (idx := 69) (d2 := d_Model_moveAt) (n := 2) (mc2 := 0) (ms2 := 0) (As := [.int x4, .int 4]) (st := [.int x2]) (res2 := (some (.int q7.1), jR0, q7.2)) (by decide +kernel) rfl lk_10_69 mo_Model_moveAt mv_Model_moveAt ⟨Nat.le_of_ble_eq_true rfl, Nat.le_of_ble_eq_true rfl⟩ rfl rfl kz_93 (by decide) rfl (Nat.le_of_ble_eq_true rfl) ⟨Nat.le_refl _, Nat.le_refl _⟩ hG (e_Model_moveAt hG hq7) ?_
          refine ev_icmp_ge (off := 8) (tgt := 99) (by decide +kernel) (by decide) (fun c9 => ?_) (fun c9 => ?_)
          · replace h := jneg c9 h
            refine ev_seg (o := 10) (nL := 5) (q := 103) (xs := [(.aload_n 0, 1, 0, 0, .null), (.iload 4, 2, 4, 0, .null), (.iconst 3, 1, 0, 0, .int 3)]) (L' := [some (.ref 93), some (.int x1), some (.int x2), some (.int x3), some (.int x4)]) (st' := [.int 3, .int x4, .ref 93]) (w' := q7.2) (g := []) (K := []) (by decide +kernel) rfl rfl rfl rfl jk0 ?_
            obtain ⟨q8, hq8, h⟩ := jbe h
            refine ev_callV (ci := 10) (a := 93) (y2 := y_Model_moveAt) (o := 10) (idx := 69) (d2 := d_Model_moveAt) (n := 2) (mc2 := 0) (ms2 := 0) (As := [.int x4, .int 3]) (st := []) (res2 := (some (.int q8.1), jR0, q8.2)) (by decide +kernel) rfl lk_10_69 mo_Model_moveAt mv_Model_moveAt ⟨Nat.le_of_ble_eq_true rfl, Nat.le_of_ble_eq_true rfl⟩ rfl rfl kz_93 (by decide) rfl (Nat.le_of_ble_eq_true rfl) ⟨Nat.le_refl _, Nat.le_refl _⟩ hG (e_Model_moveAt hG hq8) ?_
            refine ev_seg (o := 10) (nL := 5) (q := 47) (xs := [(.istore_n 3, 1, 3, 0, .null), (.iinc 4 1, 3, 4, 0, .int 1), (.goto (-63), 3, 0, 0, .null)]) (L' := [some (.ref 93), some (.int x1), some (.int x2), some (.int q8.1), some (.int (x4 + 1))]) (st' := []) (w' := q8.2) (g := []) (K := []) (by decide +kernel) rfl rfl rfl rfl jk0 ?_
            refine ev_mask [true, true, true, true, true] ?_
            exact ih _ _ _ _ _ _ h
          · replace h := jpos c9 h
            refine ev_seg (o := 10) (nL := 5) (q := 47) (xs := [(.bipush 100, 2, 0, 0, .int 100), (.goto 10, 3, 0, 0, .null), (.istore_n 3, 1, 3, 0, .null), (.iinc 4 1, 3, 4, 0, .int 1), (.goto (-63), 3, 0, 0, .null)]) (L' := [some (.ref 93), some (.int x1), some (.int x2), some (.int 100), some (.int (x4 + 1))]) (st' := []) (w' := q7.2) (g := []) (K := []) (by decide +kernel) rfl rfl rfl rfl jk0 ?_
            refine ev_mask [true, true, true, true, true] ?_
            exact ih _ _ _ _ _ _ h
        · replace h := jneg c10 h
          refine ev_seg (o := 10) (nL := 5) (q := 47) (xs := [(.goto 27, 3, 0, 0, .null), (.iinc 4 1, 3, 4, 0, .int 1), (.goto (-63), 3, 0, 0, .null)]) (L' := [some (.ref 93), some (.int x1), some (.int x2), some (.int x3), some (.int (x4 + 1))]) (st' := []) (w' := q6.2) (g := []) (K := []) (by decide +kernel) rfl rfl rfl rfl jk0 ?_
          refine ev_mask [true, true, true, true, true] ?_
          exact ih _ _ _ _ _ _ h
def f_Model_whereOf_j37 (x1 : Int32) (x2 : Int32) (w : jW) : Option (Int32 × jW) :=
  Option.bind (f_Model_thingAt x1 5 w) fun q3 =>
  f_Model_whereOf_h47 jfu x1 x2 q3.1 0 q3.2
set_option maxRecDepth 20000 in
theorem t_Model_whereOf_j37 {l : Launch} {G : jG} (hG : jX G) {x1 : Int32} {x2 : Int32} {w : jW} {z : (Int32 × jW)} (h : f_Model_whereOf_j37 x1 x2 w = some z) : Ev l G (jrm d_Model_whereOf 0 0) y_Model_whereOf (some (.int z.1), jR0, z.2) 0 0 0 0 37 [some (.ref 93), some (.int x1), some (.int x2), none, none] [] jR0 w := by
  rw [f_Model_whereOf_j37] at h
  refine ev_seg (o := 10) (nL := 5) (q := 40) (xs := [(.aload_n 0, 1, 0, 0, .null), (.iload_n 1, 1, 1, 0, .null), (.iconst 5, 1, 0, 0, .int 5)]) (L' := [some (.ref 93), some (.int x1), some (.int x2), none, none]) (st' := [.int 5, .int x1, .ref 93]) (w' := w) (g := []) (K := []) (by decide +kernel) rfl rfl rfl rfl jk0 ?_
  obtain ⟨q3, hq3, h⟩ := jbe h
  refine ev_callV (ci := 10) (a := 93) (y2 := y_Model_thingAt) (o := 10) (idx := 66) (d2 := d_Model_thingAt) (n := 2) (mc2 := 0) (ms2 := 0) (As := [.int x1, .int 5]) (st := []) (res2 := (some (.int q3.1), jR0, q3.2)) (by decide +kernel) rfl lk_10_66 mo_Model_thingAt mv_Model_thingAt ⟨Nat.le_of_ble_eq_true rfl, Nat.le_of_ble_eq_true rfl⟩ rfl rfl kz_93 (by decide) rfl (Nat.le_of_ble_eq_true rfl) ⟨Nat.le_refl _, Nat.le_refl _⟩ hG (e_Model_thingAt hG hq3) ?_
  refine ev_seg (o := 10) (nL := 5) (q := 47) (xs := [(.istore_n 3, 1, 3, 0, .null), (.iconst 0, 1, 0, 0, .int 0), (.istore 4, 2, 4, 0, .null)]) (L' := [some (.ref 93), some (.int x1), some (.int x2), some (.int q3.1), some (.int 0)]) (st' := []) (w' := q3.2) (g := []) (K := []) (by decide +kernel) rfl rfl rfl rfl jk0 ?_
  refine ev_mask [true, true, true, true, true] ?_
  exact t_Model_whereOf_h47 hG jfu _ _ _ _ _ _ h
def f_Model_whereOf (x1 : Int32) (x2 : Int32) (w : jW) : Option (Int32 × jW) :=
  Option.bind (f_Model_thingAt x1 4 w) fun q1 =>
  if x2 < q1.1 then
    some (102, q1.2)
  else
    Option.bind (f_Model_thingAt x1 7 q1.2) fun q2 =>
    if q2.1 < 0 then
      f_Model_whereOf_j37 x1 x2 q2.2
    else
      Option.bind (f_Model_thingAt x1 7 q2.2) fun q13 =>
      if x2 < q13.1 then
        f_Model_whereOf_j37 x1 x2 q13.2
      else
        some (101, q13.2)
set_option maxRecDepth 20000 in
theorem e_Model_whereOf {l : Launch} {G : jG} (hG : jX G) {x1 : Int32} {x2 : Int32} {w : jW} {z : (Int32 × jW)} (h : f_Model_whereOf x1 x2 w = some z) : Ct l G y_Model_whereOf d_Model_whereOf 0 0 [.ref 93, .int x1, .int x2] jR0 w (some (.int z.1), jR0, z.2) := by
  rw [f_Model_whereOf] at h
  refine Ct.of (L := [some (.ref 93), some (.int x1), some (.int x2), none, none]) (by decide) (Nat.le_of_ble_eq_true rfl) rfl ?_
  refine ev_seg (o := 10) (nL := 5) (q := 4) (xs := [(.iload_n 2, 1, 2, 0, .null), (.aload_n 0, 1, 0, 0, .null), (.iload_n 1, 1, 1, 0, .null), (.iconst 4, 1, 0, 0, .int 4)]) (L' := [some (.ref 93), some (.int x1), some (.int x2), none, none]) (st' := [.int 4, .int x1, .ref 93, .int x2]) (w' := w) (g := []) (K := []) (by decide +kernel) rfl rfl rfl rfl jk0 ?_
  obtain ⟨q1, hq1, h⟩ := jbe h
  refine ev_callV (ci := 10) (a := 93) (y2 := y_Model_thingAt) (o := 10) (idx := 66) (d2 := d_Model_thingAt) (n := 2) (mc2 := 0) (ms2 := 0) (As := [.int x1, .int 4]) (st := [.int x2]) (res2 := (some (.int q1.1), jR0, q1.2)) (by decide +kernel) rfl lk_10_66 mo_Model_thingAt mv_Model_thingAt ⟨Nat.le_of_ble_eq_true rfl, Nat.le_of_ble_eq_true rfl⟩ rfl rfl kz_93 (by decide) rfl (Nat.le_of_ble_eq_true rfl) ⟨Nat.le_refl _, Nat.le_refl _⟩ hG (e_Model_thingAt hG hq1) ?_
  refine ev_icmp_ge (off := 6) (tgt := 13) (by decide +kernel) (by decide) (fun c16 => ?_) (fun c16 => ?_)
  · replace h := jneg c16 h
    refine ev_seg (o := 10) (nL := 5) (q := 17) (xs := [(.aload_n 0, 1, 0, 0, .null), (.iload_n 1, 1, 1, 0, .null), (.bipush 7, 2, 0, 0, .int 7)]) (L' := [some (.ref 93), some (.int x1), some (.int x2), none, none]) (st' := [.int 7, .int x1, .ref 93]) (w' := q1.2) (g := []) (K := []) (by decide +kernel) rfl rfl rfl rfl jk0 ?_
    obtain ⟨q2, hq2, h⟩ := jbe h
    refine ev_callV (ci := 10) (a := 93) (y2 := y_Model_thingAt) (o := 10) (idx := 66) (d2 := d_Model_thingAt) (n := 2) (mc2 := 0) (ms2 := 0) (As := [.int x1, .int 7]) (st := []) (res2 := (some (.int q2.1), jR0, q2.2)) (by decide +kernel) rfl lk_10_66 mo_Model_thingAt mv_Model_thingAt ⟨Nat.le_of_ble_eq_true rfl, Nat.le_of_ble_eq_true rfl⟩ rfl rfl kz_93 (by decide) rfl (Nat.le_of_ble_eq_true rfl) ⟨Nat.le_refl _, Nat.le_refl _⟩ hG (e_Model_thingAt hG hq2) ?_
    refine ev_if_lt (off := 17) (tgt := 37) (by decide +kernel) (by decide) (fun c15 => ?_) (fun c15 => ?_)
    · replace h := jpos c15 h
      refine ev_mask [true, true, true, false, false] ?_
      exact t_Model_whereOf_j37 hG h
    · replace h := jneg c15 h
      refine ev_seg (o := 10) (nL := 5) (q := 28) (xs := [(.iload_n 2, 1, 2, 0, .null), (.aload_n 0, 1, 0, 0, .null), (.iload_n 1, 1, 1, 0, .null), (.bipush 7, 2, 0, 0, .int 7)]) (L' := [some (.ref 93), some (.int x1), some (.int x2), none, none]) (st' := [.int 7, .int x1, .ref 93, .int x2]) (w' := q2.2) (g := []) (K := []) (by decide +kernel) rfl rfl rfl rfl jk0 ?_
      obtain ⟨q13, hq13, h⟩ := jbe h
      refine ev_callV (ci := 10) (a := 93) (y2 := y_Model_thingAt) (o := 10) (idx := 66) (d2 := d_Model_thingAt) (n := 2) (mc2 := 0) (ms2 := 0) (As := [.int x1, .int 7]) (st := [.int x2]) (res2 := (some (.int q13.1), jR0, q13.2)) (by decide +kernel) rfl lk_10_66 mo_Model_thingAt mv_Model_thingAt ⟨Nat.le_of_ble_eq_true rfl, Nat.le_of_ble_eq_true rfl⟩ rfl rfl kz_93 (by decide) rfl (Nat.le_of_ble_eq_true rfl) ⟨Nat.le_refl _, Nat.le_refl _⟩ hG (e_Model_thingAt hG hq13) ?_
      refine ev_icmp_lt (off := 6) (tgt := 37) (by decide +kernel) (by decide) (fun c14 => ?_) (fun c14 => ?_)
      · replace h := jpos c14 h
        refine ev_mask [true, true, true, false, false] ?_
        exact t_Model_whereOf_j37 hG h
      · replace h := jneg c14 h
        refine ev_seg (o := 10) (nL := 5) (q := 36) (xs := [(.bipush 101, 2, 0, 0, .int 101)]) (L' := [some (.ref 93), some (.int x1), some (.int x2), none, none]) (st' := [.int 101]) (w' := q13.2) (g := []) (K := []) (by decide +kernel) rfl rfl rfl rfl jk0 ?_
        cases h
        exact ev_iret (by decide +kernel) rfl rfl rfl rfl
  · replace h := jpos c16 h
    refine ev_seg (o := 10) (nL := 5) (q := 12) (xs := [(.bipush 102, 2, 0, 0, .int 102)]) (L' := [some (.ref 93), some (.int x1), some (.int x2), none, none]) (st' := [.int 102]) (w' := q1.2) (g := []) (K := []) (by decide +kernel) rfl rfl rfl rfl jk0 ?_
    cases h
    exact ev_iret (by decide +kernel) rfl rfl rfl rfl
def f_Model_where (x1 : Int32) (x2 : Int32) (w : jW) : Option (Int32 × jW) :=
  Option.bind (f_Model_isThing x1 w) fun q1 =>
  if q1.1 = 0 then
    some ((-1), q1.2)
  else
    Option.bind (f_Model_isDay x2 q1.2) fun q2 =>
    if q2.1 = 0 then
      some ((-1), q2.2)
    else
      Option.bind (f_Model_whereOf x1 x2 q2.2) fun q3 =>
      some (q3.1, q3.2)
set_option maxRecDepth 20000 in
theorem e_Model_where {l : Launch} {G : jG} (hG : jX G) {x1 : Int32} {x2 : Int32} {w : jW} {z : (Int32 × jW)} (h : f_Model_where x1 x2 w = some z) : Ct l G y_Model_where d_Model_where 0 0 [.ref 93, .int x1, .int x2] jR0 w (some (.int z.1), jR0, z.2) := by
  rw [f_Model_where] at h
  refine Ct.of (L := [some (.ref 93), some (.int x1), some (.int x2)]) (by decide) (Nat.le_of_ble_eq_true rfl) rfl ?_
  refine ev_seg (o := 10) (nL := 3) (q := 2) (xs := [(.aload_n 0, 1, 0, 0, .null), (.iload_n 1, 1, 1, 0, .null)]) (L' := [some (.ref 93), some (.int x1), some (.int x2)]) (st' := [.int x1, .ref 93]) (w' := w) (g := []) (K := []) (by decide +kernel) rfl rfl rfl rfl jk0 ?_
  obtain ⟨q1, hq1, h⟩ := jbe h
  refine ev_callV (ci := 10) (a := 93) (y2 := y_Model_isThing) (o := 10) (idx := 72) (d2 := d_Model_isThing) (n := 1) (mc2 := 0) (ms2 := 0) (As := [.int x1]) (st := []) (res2 := (some (.int q1.1), jR0, q1.2)) (by decide +kernel) rfl lk_10_72 mo_Model_isThing mv_Model_isThing ⟨Nat.le_of_ble_eq_true rfl, Nat.le_of_ble_eq_true rfl⟩ rfl rfl kz_93 (by decide) rfl (Nat.le_of_ble_eq_true rfl) ⟨Nat.le_refl _, Nat.le_refl _⟩ hG (e_Model_isThing hG hq1) ?_
  refine ev_if_eq (off := 19) (tgt := 24) (by decide +kernel) (by decide) (fun c5 => ?_) (fun c5 => ?_)
  · replace h := jpos c5 h
    refine ev_seg (o := 10) (nL := 3) (q := 25) (xs := [(.iconst (-1), 1, 0, 0, .int (-1))]) (L' := [some (.ref 93), some (.int x1), some (.int x2)]) (st' := [.int (-1)]) (w' := q1.2) (g := []) (K := []) (by decide +kernel) rfl rfl rfl rfl jk0 ?_
    cases h
    exact ev_iret (by decide +kernel) rfl rfl rfl rfl
  · replace h := jneg c5 h
    refine ev_seg (o := 10) (nL := 3) (q := 9) (xs := [(.iload_n 2, 1, 2, 0, .null)]) (L' := [some (.ref 93), some (.int x1), some (.int x2)]) (st' := [.int x2]) (w' := q1.2) (g := []) (K := []) (by decide +kernel) rfl rfl rfl rfl jk0 ?_
    obtain ⟨q2, hq2, h⟩ := jbe h
    refine ev_callS (y2 := y_Model_isDay) (o := 10) (idx := 75) (d2 := d_Model_isDay) (n := 1) (mc2 := 0) (ms2 := 0) (As := [.int x2]) (st := []) (res2 := (some (.int q2.1), jR0, q2.2)) (by decide +kernel) rfl lk_10_75 mo_Model_isDay ms_Model_isDay ⟨Nat.le_of_ble_eq_true rfl, Nat.le_of_ble_eq_true rfl⟩ rfl rfl (Nat.le_of_ble_eq_true rfl) ⟨Nat.le_refl _, Nat.le_refl _⟩ hG (e_Model_isDay hG hq2) ?_
    refine ev_if_eq (off := 12) (tgt := 24) (by decide +kernel) (by decide) (fun c4 => ?_) (fun c4 => ?_)
    · replace h := jpos c4 h
      refine ev_seg (o := 10) (nL := 3) (q := 25) (xs := [(.iconst (-1), 1, 0, 0, .int (-1))]) (L' := [some (.ref 93), some (.int x1), some (.int x2)]) (st' := [.int (-1)]) (w' := q2.2) (g := []) (K := []) (by decide +kernel) rfl rfl rfl rfl jk0 ?_
      cases h
      exact ev_iret (by decide +kernel) rfl rfl rfl rfl
    · replace h := jneg c4 h
      refine ev_seg (o := 10) (nL := 3) (q := 18) (xs := [(.aload_n 0, 1, 0, 0, .null), (.iload_n 1, 1, 1, 0, .null), (.iload_n 2, 1, 2, 0, .null)]) (L' := [some (.ref 93), some (.int x1), some (.int x2)]) (st' := [.int x2, .int x1, .ref 93]) (w' := q2.2) (g := []) (K := []) (by decide +kernel) rfl rfl rfl rfl jk0 ?_
      obtain ⟨q3, hq3, h⟩ := jbe h
      refine ev_callV (ci := 10) (a := 93) (y2 := y_Model_whereOf) (o := 10) (idx := 78) (d2 := d_Model_whereOf) (n := 2) (mc2 := 0) (ms2 := 0) (As := [.int x1, .int x2]) (st := []) (res2 := (some (.int q3.1), jR0, q3.2)) (by decide +kernel) rfl lk_10_78 mo_Model_whereOf mv_Model_whereOf ⟨Nat.le_of_ble_eq_true rfl, Nat.le_of_ble_eq_true rfl⟩ rfl rfl kz_93 (by decide) rfl (Nat.le_of_ble_eq_true rfl) ⟨Nat.le_refl _, Nat.le_refl _⟩ hG (e_Model_whereOf hG hq3) ?_
      refine ev_seg (o := 10) (nL := 3) (q := 25) (xs := [(.goto 4, 3, 0, 0, .null)]) (L' := [some (.ref 93), some (.int x1), some (.int x2)]) (st' := [.int q3.1]) (w' := q3.2) (g := []) (K := []) (by decide +kernel) rfl rfl rfl rfl jk0 ?_
      cases h
      exact ev_iret (by decide +kernel) rfl rfl rfl rfl
def f_Model_move (x1 : Int32) (x2 : Int32) (w : jW) : Option (Int32 × jW) :=
  Option.bind (f_Model_isThing x1 w) fun q1 =>
  if q1.1 = 0 then
    some ((-1), q1.2)
  else
    Option.bind (f_Model_isSite x2 q1.2) fun q2 =>
    if q2.1 = 0 then
      some ((-1), q2.2)
    else
      if jal [jin 4 21000] = true then
      if (q2.2.1 94 (Int32.toNatClampNeg 4)) = 100 then
        some ((-1), q2.2)
      else
        if jal [jin 0 21000] = true then
        Option.bind (f_Model_whereOf x1 (q2.2.1 94 (Int32.toNatClampNeg 0)) q2.2) fun q5 =>
        if q5.1 < 100 then
          if q5.1 = x2 then
            some ((-1), q5.2)
          else
            Option.bind (f_Model_wayOf q5.1 x2 q5.2) fun q6 =>
            if q6.1 < 0 then
              some ((-1), q6.2)
            else
              if jal [jin 0 21000] = true then
              if ((q6.2.1 94 (Int32.toNatClampNeg 0)) + q6.1) ≤ 1999 then
                if jal [jin (720 + (8 * (q6.2.1 94 (Int32.toNatClampNeg 4)))) 21000, jin 4 21000] = true then
                jlw ((jup q6.2.1 94 (Int32.toNatClampNeg (720 + (8 * (q6.2.1 94 (Int32.toNatClampNeg 4))))) x1), q6.2.2) fun w9 =>
                if jal [jin ((720 + (8 * (q6.2.1 94 (Int32.toNatClampNeg 4)))) + 1) 21000, jin 0 21000] = true then
                jlw ((jup w9.1 94 (Int32.toNatClampNeg ((720 + (8 * (q6.2.1 94 (Int32.toNatClampNeg 4)))) + 1)) (w9.1 94 (Int32.toNatClampNeg 0))), w9.2) fun w11 =>
                if jal [jin ((720 + (8 * (q6.2.1 94 (Int32.toNatClampNeg 4)))) + 2) 21000] = true then
                jlw ((jup w11.1 94 (Int32.toNatClampNeg ((720 + (8 * (q6.2.1 94 (Int32.toNatClampNeg 4)))) + 2)) q5.1), w11.2) fun w13 =>
                if jal [jin ((720 + (8 * (q6.2.1 94 (Int32.toNatClampNeg 4)))) + 3) 21000] = true then
                jlw ((jup w13.1 94 (Int32.toNatClampNeg ((720 + (8 * (q6.2.1 94 (Int32.toNatClampNeg 4)))) + 3)) x2), w13.2) fun w15 =>
                if jal [jin ((720 + (8 * (q6.2.1 94 (Int32.toNatClampNeg 4)))) + 4) 21000, jin 0 21000] = true then
                jlw ((jup w15.1 94 (Int32.toNatClampNeg ((720 + (8 * (q6.2.1 94 (Int32.toNatClampNeg 4)))) + 4)) ((w15.1 94 (Int32.toNatClampNeg 0)) + q6.1)), w15.2) fun w17 =>
                Option.bind (f_Model_thingAt x1 3 w17) fun q18 =>
                if jal [jin 4 21000] = true then
                Option.bind (f_Model_noted 1 q18.1 (q18.2.1 94 (Int32.toNatClampNeg 4)) 0 q18.2) fun q20 =>
                if jal [jin 4 21000, jin 4 21000] = true then
                jlw ((jup q20.1 94 (Int32.toNatClampNeg 4) ((q20.1 94 (Int32.toNatClampNeg 4)) + 1)), q20.2) fun w22 =>
                if jal [jin 4 21000] = true then
                some (((w22.1 94 (Int32.toNatClampNeg 4)) - 1), w22)
                else none else none
                else none
                else none else none else none else none else none
              else
                some ((-1), q6.2)
              else none
        else
          some ((-1), q5.2)
        else none
      else none
set_option maxRecDepth 20000 in
theorem e_Model_move {l : Launch} {G : jG} (hG : jX G) {x1 : Int32} {x2 : Int32} {w : jW} {z : (Int32 × jW)} (h : f_Model_move x1 x2 w = some z) : Ct l G y_Model_move d_Model_move 0 0 [.ref 93, .int x1, .int x2] jR0 w (some (.int z.1), jR0, z.2) := by
  rw [f_Model_move] at h
  refine Ct.of (L := [some (.ref 93), some (.int x1), some (.int x2), none, none, none]) (by decide) (Nat.le_of_ble_eq_true rfl) rfl ?_
  refine ev_seg (o := 10) (nL := 6) (q := 2) (xs := [(.aload_n 0, 1, 0, 0, .null), (.iload_n 1, 1, 1, 0, .null)]) (L' := [some (.ref 93), some (.int x1), some (.int x2), none, none, none]) (st' := [.int x1, .ref 93]) (w' := w) (g := []) (K := []) (by decide +kernel) rfl rfl rfl rfl jk0 ?_
  obtain ⟨q1, hq1, h⟩ := jbe h
  refine ev_callV (ci := 10) (a := 93) (y2 := y_Model_isThing) (o := 10) (idx := 72) (d2 := d_Model_isThing) (n := 1) (mc2 := 0) (ms2 := 0) (As := [.int x1]) (st := []) (res2 := (some (.int q1.1), jR0, q1.2)) (by decide +kernel) rfl lk_10_72 mo_Model_isThing mv_Model_isThing ⟨Nat.le_of_ble_eq_true rfl, Nat.le_of_ble_eq_true rfl⟩ rfl rfl kz_93 (by decide) rfl (Nat.le_of_ble_eq_true rfl) ⟨Nat.le_refl _, Nat.le_refl _⟩ hG (e_Model_isThing hG hq1) ?_
  refine ev_if_eq (off := 22) (tgt := 27) (by decide +kernel) (by decide) (fun c30 => ?_) (fun c30 => ?_)
  · replace h := jpos c30 h
    refine ev_seg (o := 10) (nL := 6) (q := 28) (xs := [(.iconst (-1), 1, 0, 0, .int (-1))]) (L' := [some (.ref 93), some (.int x1), some (.int x2), none, none, none]) (st' := [.int (-1)]) (w' := q1.2) (g := []) (K := []) (by decide +kernel) rfl rfl rfl rfl jk0 ?_
    cases h
    exact ev_iret (by decide +kernel) rfl rfl rfl rfl
  · replace h := jneg c30 h
    refine ev_seg (o := 10) (nL := 6) (q := 10) (xs := [(.aload_n 0, 1, 0, 0, .null), (.iload_n 2, 1, 2, 0, .null)]) (L' := [some (.ref 93), some (.int x1), some (.int x2), none, none, none]) (st' := [.int x2, .ref 93]) (w' := q1.2) (g := []) (K := []) (by decide +kernel) rfl rfl rfl rfl jk0 ?_
    obtain ⟨q2, hq2, h⟩ := jbe h
    refine ev_callV (ci := 10) (a := 93) (y2 := y_Model_isSite) (o := 10) (idx := 50) (d2 := d_Model_isSite) (n := 1) (mc2 := 0) (ms2 := 0) (As := [.int x2]) (st := []) (res2 := (some (.int q2.1), jR0, q2.2)) (by decide +kernel) rfl lk_10_50 mo_Model_isSite mv_Model_isSite ⟨Nat.le_of_ble_eq_true rfl, Nat.le_of_ble_eq_true rfl⟩ rfl rfl kz_93 (by decide) rfl (Nat.le_of_ble_eq_true rfl) ⟨Nat.le_refl _, Nat.le_refl _⟩ hG (e_Model_isSite hG hq2) ?_
    refine ev_if_eq (off := 14) (tgt := 27) (by decide +kernel) (by decide) (fun c29 => ?_) (fun c29 => ?_)
    · replace h := jpos c29 h
      refine ev_seg (o := 10) (nL := 6) (q := 28) (xs := [(.iconst (-1), 1, 0, 0, .int (-1))]) (L' := [some (.ref 93), some (.int x1), some (.int x2), none, none, none]) (st' := [.int (-1)]) (w' := q2.2) (g := []) (K := []) (by decide +kernel) rfl rfl rfl rfl jk0 ?_
      cases h
      exact ev_iret (by decide +kernel) rfl rfl rfl rfl
    · replace h := jneg c29 h
      obtain ⟨hg3, h⟩ := jgd h
      refine ev_seg (o := 10) (nL := 6) (q := 24) (xs := [(.aload_n 0, 1, 0, 0, .null), (.getfield 7, 3, 10, 0, .ref 20), (.iconst 4, 1, 0, 0, .int 4), (.iaload, 1, 0, 0, .null), (.bipush 100, 2, 0, 0, .int 100)]) (L' := [some (.ref 93), some (.int x1), some (.int x2), none, none, none]) (st' := [.int 100, .int (q2.2.1 94 (Int32.toNatClampNeg 4))]) (w' := q2.2) (g := [jin 4 21000]) (K := [(94, 20), (94, 20), (93, 10)]) (by decide +kernel) rfl rfl rfl hg3 (jk1 kz_94 (jk1 kz_94 (jk1 kz_93 jk0))) ?_
      refine ev_icmp_ne (off := 5) (tgt := 29) (by decide +kernel) (by decide) (fun c28 => ?_) (fun c28 => ?_)
      · replace h := jneg c28 h
        obtain ⟨hg4, h⟩ := jgd h
        refine ev_seg (o := 10) (nL := 6) (q := 37) (xs := [(.aload_n 0, 1, 0, 0, .null), (.iload_n 1, 1, 1, 0, .null), (.aload_n 0, 1, 0, 0, .null), (.getfield 7, 3, 10, 0, .ref 20), (.iconst 0, 1, 0, 0, .int 0), (.iaload, 1, 0, 0, .null)]) (L' := [some (.ref 93), some (.int x1), some (.int x2), none, none, none]) (st' := [.int (q2.2.1 94 (Int32.toNatClampNeg 0)), .int x1, .ref 93]) (w' := q2.2) (g := [jin 0 21000]) (K := [(94, 20), (94, 20), (93, 10)]) (by decide +kernel) rfl rfl rfl hg4 (jk1 kz_94 (jk1 kz_94 (jk1 kz_93 jk0))) ?_
        obtain ⟨q5, hq5, h⟩ := jbe h
        refine ev_callV (ci := 10) (a := 93) (y2 := y_Model_whereOf) (o := 10) (idx := 78) (d2 := d_Model_whereOf) (n := 2) (mc2 := 0) (ms2 := 0) (As := [.int x1, .int (q2.2.1 94 (Int32.toNatClampNeg 0))]) (st := []) (res2 := (some (.int q5.1), jR0, q5.2)) (by decide +kernel) rfl lk_10_78 mo_Model_whereOf mv_Model_whereOf ⟨Nat.le_of_ble_eq_true rfl, Nat.le_of_ble_eq_true rfl⟩ rfl rfl kz_93 (by decide) rfl (Nat.le_of_ble_eq_true rfl) ⟨Nat.le_refl _, Nat.le_refl _⟩ hG (e_Model_whereOf hG hq5) ?_
        refine ev_seg (o := 10) (nL := 6) (q := 44) (xs := [(.istore_n 3, 1, 3, 0, .null), (.iload_n 3, 1, 3, 0, .null), (.bipush 100, 2, 0, 0, .int 100)]) (L' := [some (.ref 93), some (.int x1), some (.int x2), some (.int q5.1), none, none]) (st' := [.int 100, .int q5.1]) (w' := q5.2) (g := []) (K := []) (by decide +kernel) rfl rfl rfl rfl jk0 ?_
        refine ev_icmp_ge (off := 8) (tgt := 52) (by decide +kernel) (by decide) (fun c27 => ?_) (fun c27 => ?_)
        · replace h := jneg c27 h
          refine ev_seg (o := 10) (nL := 6) (q := 53) (xs := [(.iconst (-1), 1, 0, 0, .int (-1))]) (L' := [some (.ref 93), some (.int x1), some (.int x2), some (.int q5.1), none, none]) (st' := [.int (-1)]) (w' := q5.2) (g := []) (K := []) (by decide +kernel) rfl rfl rfl rfl jk0 ?_
          cases h
          exact ev_iret (by decide +kernel) rfl rfl rfl rfl
        · replace h := jpos c27 h
          refine ev_seg (o := 10) (nL := 6) (q := 49) (xs := [(.iload_n 3, 1, 3, 0, .null), (.iload_n 2, 1, 2, 0, .null)]) (L' := [some (.ref 93), some (.int x1), some (.int x2), some (.int q5.1), none, none]) (st' := [.int x2, .int q5.1]) (w' := q5.2) (g := []) (K := []) (by decide +kernel) rfl rfl rfl rfl jk0 ?_
          refine ev_icmp_ne (off := 5) (tgt := 54) (by decide +kernel) (by decide) (fun c26 => ?_) (fun c26 => ?_)
          · replace h := jneg c26 h
            refine ev_seg (o := 10) (nL := 6) (q := 57) (xs := [(.aload_n 0, 1, 0, 0, .null), (.iload_n 3, 1, 3, 0, .null), (.iload_n 2, 1, 2, 0, .null)]) (L' := [some (.ref 93), some (.int x1), some (.int x2), some (.int q5.1), none, none]) (st' := [.int x2, .int q5.1, .ref 93]) (w' := q5.2) (g := []) (K := []) (by decide +kernel) rfl rfl rfl rfl jk0 ?_
            obtain ⟨q6, hq6, h⟩ := jbe h
            refine ev_callV (ci := 10) (a := 93) (y2 := y_Model_wayOf) (o := 10) (idx := 59) (d2 := d_Model_wayOf) (n := 2) (mc2 := 0) (ms2 := 0) (As := [.int q5.1, .int x2]) (st := []) (res2 := (some (.int q6.1), jR0, q6.2)) (by decide +kernel) rfl lk_10_59 mo_Model_wayOf mv_Model_wayOf ⟨Nat.le_of_ble_eq_true rfl, Nat.le_of_ble_eq_true rfl⟩ rfl rfl kz_93 (by decide) rfl (Nat.le_of_ble_eq_true rfl) ⟨Nat.le_refl _, Nat.le_refl _⟩ hG (e_Model_wayOf hG hq6) ?_
            refine ev_seg (o := 10) (nL := 6) (q := 64) (xs := [(.istore 4, 2, 4, 0, .null), (.iload 4, 2, 4, 0, .null)]) (L' := [some (.ref 93), some (.int x1), some (.int x2), some (.int q5.1), some (.int q6.1), none]) (st' := [.int q6.1]) (w' := q6.2) (g := []) (K := []) (by decide +kernel) rfl rfl rfl rfl jk0 ?_
            refine ev_if_lt (off := 18) (tgt := 82) (by decide +kernel) (by decide) (fun c25 => ?_) (fun c25 => ?_)
            · replace h := jpos c25 h
              refine ev_seg (o := 10) (nL := 6) (q := 83) (xs := [(.iconst (-1), 1, 0, 0, .int (-1))]) (L' := [some (.ref 93), some (.int x1), some (.int x2), some (.int q5.1), some (.int q6.1), none]) (st' := [.int (-1)]) (w' := q6.2) (g := []) (K := []) (by decide +kernel) rfl rfl rfl rfl jk0 ?_
              cases h
              exact ev_iret (by decide +kernel) rfl rfl rfl rfl
            · replace h := jneg c25 h
              obtain ⟨hg7, h⟩ := jgd h
              refine ev_seg (o := 10) (nL := 6) (q := 79) (xs := [(.aload_n 0, 1, 0, 0, .null), (.getfield 7, 3, 10, 0, .ref 20), (.iconst 0, 1, 0, 0, .int 0), (.iaload, 1, 0, 0, .null), (.iload 4, 2, 4, 0, .null), (.iadd, 1, 0, 0, .null), (.sipush 1999, 3, 0, 0, .int 1999)]) (L' := [some (.ref 93), some (.int x1), some (.int x2), some (.int q5.1), some (.int q6.1), none]) (st' := [.int 1999, .int ((q6.2.1 94 (Int32.toNatClampNeg 0)) + q6.1)]) (w' := q6.2) (g := [jin 0 21000]) (K := [(94, 20), (94, 20), (93, 10)]) (by decide +kernel) rfl rfl rfl hg7 (jk1 kz_94 (jk1 kz_94 (jk1 kz_93 jk0))) ?_
              refine ev_icmp_le (off := 5) (tgt := 84) (by decide +kernel) (by decide) (fun c24 => ?_) (fun c24 => ?_)
              · replace h := jpos c24 h
                obtain ⟨hg8, h⟩ := jgd h
                refine ev_seg (o := 10) (nL := 6) (q := 107) (xs := [(.sipush 720, 3, 0, 0, .int 720), (.bipush 8, 2, 0, 0, .int 8), (.aload_n 0, 1, 0, 0, .null), (.getfield 7, 3, 10, 0, .ref 20), (.iconst 4, 1, 0, 0, .int 4), (.iaload, 1, 0, 0, .null), (.imul, 1, 0, 0, .null), (.iadd, 1, 0, 0, .null), (.istore 5, 2, 5, 0, .null), (.aload_n 0, 1, 0, 0, .null), (.getfield 7, 3, 10, 0, .ref 20), (.iload 5, 2, 5, 0, .null), (.iload_n 1, 1, 1, 0, .null), (.iastore, 1, 0, 0, .null)]) (L' := [some (.ref 93), some (.int x1), some (.int x2), some (.int q5.1), some (.int q6.1), some (.int (720 + (8 * (q6.2.1 94 (Int32.toNatClampNeg 4)))))]) (st' := []) (w' := ((jup q6.2.1 94 (Int32.toNatClampNeg (720 + (8 * (q6.2.1 94 (Int32.toNatClampNeg 4))))) x1), q6.2.2)) (g := [jin (720 + (8 * (q6.2.1 94 (Int32.toNatClampNeg 4)))) 21000, jin 4 21000]) (K := [(94, 20), (94, 20), (93, 10), (94, 20), (94, 20), (93, 10)]) (by decide +kernel) rfl rfl rfl hg8 (jk1 kz_94 (jk1 kz_94 (jk1 kz_93 (jk1 kz_94 (jk1 kz_94 (jk1 kz_93 jk0)))))) ?_
                refine jlw_c (P := fun w9 => Ev l G (jrm d_Model_move 0 0) y_Model_move (some (.int z.1), jR0, z.2) 0 0 0 0 107 [some (.ref 93), some (.int x1), some (.int x2), some (.int q5.1), some (.int q6.1), some (.int (720 + (8 * (q6.2.1 94 (Int32.toNatClampNeg 4)))))] [] jR0 w9) h fun w9 h => ?_
                obtain ⟨hg10, h⟩ := jgd h
                refine ev_seg (o := 10) (nL := 6) (q := 122) (xs := [(.aload_n 0, 1, 0, 0, .null), (.getfield 7, 3, 10, 0, .ref 20), (.iload 5, 2, 5, 0, .null), (.iconst 1, 1, 0, 0, .int 1), (.iadd, 1, 0, 0, .null), (.aload_n 0, 1, 0, 0, .null), (.getfield 7, 3, 10, 0, .ref 20), (.iconst 0, 1, 0, 0, .int 0), (.iaload, 1, 0, 0, .null), (.iastore, 1, 0, 0, .null)]) (L' := [some (.ref 93), some (.int x1), some (.int x2), some (.int q5.1), some (.int q6.1), some (.int (720 + (8 * (q6.2.1 94 (Int32.toNatClampNeg 4)))))]) (st' := []) (w' := ((jup w9.1 94 (Int32.toNatClampNeg ((720 + (8 * (q6.2.1 94 (Int32.toNatClampNeg 4)))) + 1)) (w9.1 94 (Int32.toNatClampNeg 0))), w9.2)) (g := [jin ((720 + (8 * (q6.2.1 94 (Int32.toNatClampNeg 4)))) + 1) 21000, jin 0 21000]) (K := [(94, 20), (94, 20), (94, 20), (93, 10), (94, 20), (93, 10)]) (by decide +kernel) rfl rfl rfl hg10 (jk1 kz_94 (jk1 kz_94 (jk1 kz_94 (jk1 kz_93 (jk1 kz_94 (jk1 kz_93 jk0)))))) ?_
                refine jlw_c (P := fun w11 => Ev l G (jrm d_Model_move 0 0) y_Model_move (some (.int z.1), jR0, z.2) 0 0 0 0 122 [some (.ref 93), some (.int x1), some (.int x2), some (.int q5.1), some (.int q6.1), some (.int (720 + (8 * (q6.2.1 94 (Int32.toNatClampNeg 4)))))] [] jR0 w11) h fun w11 h => ?_
                obtain ⟨hg12, h⟩ := jgd h
                refine ev_seg (o := 10) (nL := 6) (q := 132) (xs := [(.aload_n 0, 1, 0, 0, .null), (.getfield 7, 3, 10, 0, .ref 20), (.iload 5, 2, 5, 0, .null), (.iconst 2, 1, 0, 0, .int 2), (.iadd, 1, 0, 0, .null), (.iload_n 3, 1, 3, 0, .null), (.iastore, 1, 0, 0, .null)]) (L' := [some (.ref 93), some (.int x1), some (.int x2), some (.int q5.1), some (.int q6.1), some (.int (720 + (8 * (q6.2.1 94 (Int32.toNatClampNeg 4)))))]) (st' := []) (w' := ((jup w11.1 94 (Int32.toNatClampNeg ((720 + (8 * (q6.2.1 94 (Int32.toNatClampNeg 4)))) + 2)) q5.1), w11.2)) (g := [jin ((720 + (8 * (q6.2.1 94 (Int32.toNatClampNeg 4)))) + 2) 21000]) (K := [(94, 20), (94, 20), (93, 10)]) (by decide +kernel) rfl rfl rfl hg12 (jk1 kz_94 (jk1 kz_94 (jk1 kz_93 jk0))) ?_
                refine jlw_c (P := fun w13 => Ev l G (jrm d_Model_move 0 0) y_Model_move (some (.int z.1), jR0, z.2) 0 0 0 0 132 [some (.ref 93), some (.int x1), some (.int x2), some (.int q5.1), some (.int q6.1), some (.int (720 + (8 * (q6.2.1 94 (Int32.toNatClampNeg 4)))))] [] jR0 w13) h fun w13 h => ?_
                obtain ⟨hg14, h⟩ := jgd h
                refine ev_seg (o := 10) (nL := 6) (q := 142) (xs := [(.aload_n 0, 1, 0, 0, .null), (.getfield 7, 3, 10, 0, .ref 20), (.iload 5, 2, 5, 0, .null), (.iconst 3, 1, 0, 0, .int 3), (.iadd, 1, 0, 0, .null), (.iload_n 2, 1, 2, 0, .null), (.iastore, 1, 0, 0, .null)]) (L' := [some (.ref 93), some (.int x1), some (.int x2), some (.int q5.1), some (.int q6.1), some (.int (720 + (8 * (q6.2.1 94 (Int32.toNatClampNeg 4)))))]) (st' := []) (w' := ((jup w13.1 94 (Int32.toNatClampNeg ((720 + (8 * (q6.2.1 94 (Int32.toNatClampNeg 4)))) + 3)) x2), w13.2)) (g := [jin ((720 + (8 * (q6.2.1 94 (Int32.toNatClampNeg 4)))) + 3) 21000]) (K := [(94, 20), (94, 20), (93, 10)]) (by decide +kernel) rfl rfl rfl hg14 (jk1 kz_94 (jk1 kz_94 (jk1 kz_93 jk0))) ?_
                refine jlw_c (P := fun w15 => Ev l G (jrm d_Model_move 0 0) y_Model_move (some (.int z.1), jR0, z.2) 0 0 0 0 142 [some (.ref 93), some (.int x1), some (.int x2), some (.int q5.1), some (.int q6.1), some (.int (720 + (8 * (q6.2.1 94 (Int32.toNatClampNeg 4)))))] [] jR0 w15) h fun w15 h => ?_
                obtain ⟨hg16, h⟩ := jgd h
                refine ev_seg (o := 10) (nL := 6) (q := 160) (xs := [(.aload_n 0, 1, 0, 0, .null), (.getfield 7, 3, 10, 0, .ref 20), (.iload 5, 2, 5, 0, .null), (.iconst 4, 1, 0, 0, .int 4), (.iadd, 1, 0, 0, .null), (.aload_n 0, 1, 0, 0, .null), (.getfield 7, 3, 10, 0, .ref 20), (.iconst 0, 1, 0, 0, .int 0), (.iaload, 1, 0, 0, .null), (.iload 4, 2, 4, 0, .null), (.iadd, 1, 0, 0, .null), (.iastore, 1, 0, 0, .null)]) (L' := [some (.ref 93), some (.int x1), some (.int x2), some (.int q5.1), some (.int q6.1), some (.int (720 + (8 * (q6.2.1 94 (Int32.toNatClampNeg 4)))))]) (st' := []) (w' := ((jup w15.1 94 (Int32.toNatClampNeg ((720 + (8 * (q6.2.1 94 (Int32.toNatClampNeg 4)))) + 4)) ((w15.1 94 (Int32.toNatClampNeg 0)) + q6.1)), w15.2)) (g := [jin ((720 + (8 * (q6.2.1 94 (Int32.toNatClampNeg 4)))) + 4) 21000, jin 0 21000]) (K := [(94, 20), (94, 20), (94, 20), (93, 10), (94, 20), (93, 10)]) (by decide +kernel) rfl rfl rfl hg16 (jk1 kz_94 (jk1 kz_94 (jk1 kz_94 (jk1 kz_93 (jk1 kz_94 (jk1 kz_93 jk0)))))) ?_
                refine jlw_c (P := fun w17 => Ev l G (jrm d_Model_move 0 0) y_Model_move (some (.int z.1), jR0, z.2) 0 0 0 0 160 [some (.ref 93), some (.int x1), some (.int x2), some (.int q5.1), some (.int q6.1), some (.int (720 + (8 * (q6.2.1 94 (Int32.toNatClampNeg 4)))))] [] jR0 w17) h fun w17 h => ?_
                refine ev_seg (o := 10) (nL := 6) (q := 165) (xs := [(.aload_n 0, 1, 0, 0, .null), (.iconst 1, 1, 0, 0, .int 1), (.aload_n 0, 1, 0, 0, .null), (.iload_n 1, 1, 1, 0, .null), (.iconst 3, 1, 0, 0, .int 3)]) (L' := [some (.ref 93), some (.int x1), some (.int x2), some (.int q5.1), some (.int q6.1), some (.int (720 + (8 * (q6.2.1 94 (Int32.toNatClampNeg 4)))))]) (st' := [.int 3, .int x1, .ref 93, .int 1, .ref 93]) (w' := w17) (g := []) (K := []) (by decide +kernel) rfl rfl rfl rfl jk0 ?_
                obtain ⟨q18, hq18, h⟩ := jbe h
                refine ev_callV (ci := 10) (a := 93) (y2 := y_Model_thingAt) (o := 10) (idx := 66) (d2 := d_Model_thingAt) (n := 2) (mc2 := 0) (ms2 := 0) (As := [.int x1, .int 3]) (st := [.int 1, .ref 93]) (res2 := (some (.int q18.1), jR0, q18.2)) (by decide +kernel) rfl lk_10_66 mo_Model_thingAt mv_Model_thingAt ⟨Nat.le_of_ble_eq_true rfl, Nat.le_of_ble_eq_true rfl⟩ rfl rfl kz_93 (by decide) rfl (Nat.le_of_ble_eq_true rfl) ⟨Nat.le_refl _, Nat.le_refl _⟩ hG (e_Model_thingAt hG hq18) ?_
                obtain ⟨hg19, h⟩ := jgd h
                refine ev_seg (o := 10) (nL := 6) (q := 175) (xs := [(.aload_n 0, 1, 0, 0, .null), (.getfield 7, 3, 10, 0, .ref 20), (.iconst 4, 1, 0, 0, .int 4), (.iaload, 1, 0, 0, .null), (.iconst 0, 1, 0, 0, .int 0)]) (L' := [some (.ref 93), some (.int x1), some (.int x2), some (.int q5.1), some (.int q6.1), some (.int (720 + (8 * (q6.2.1 94 (Int32.toNatClampNeg 4)))))]) (st' := [.int 0, .int (q18.2.1 94 (Int32.toNatClampNeg 4)), .int q18.1, .int 1, .ref 93]) (w' := q18.2) (g := [jin 4 21000]) (K := [(94, 20), (94, 20), (93, 10)]) (by decide +kernel) rfl rfl rfl hg19 (jk1 kz_94 (jk1 kz_94 (jk1 kz_93 jk0))) ?_
                obtain ⟨q20, hq20, h⟩ := jbe h
                refine ev_callV (ci := 10) (a := 93) (y2 := y_Model_noted) (o := 10) (idx := 62) (d2 := d_Model_noted) (n := 4) (mc2 := 0) (ms2 := 0) (As := [.int 1, .int q18.1, .int (q18.2.1 94 (Int32.toNatClampNeg 4)), .int 0]) (st := []) (res2 := (none, jR0, q20)) (by decide +kernel) rfl lk_10_62 mo_Model_noted mv_Model_noted ⟨Nat.le_of_ble_eq_true rfl, Nat.le_of_ble_eq_true rfl⟩ rfl rfl kz_93 (by decide) rfl (Nat.le_of_ble_eq_true rfl) ⟨Nat.le_refl _, Nat.le_refl _⟩ hG (e_Model_noted hG hq20) ?_
                obtain ⟨hg21, h⟩ := jgd h
                refine ev_seg (o := 10) (nL := 6) (q := 188) (xs := [(.aload_n 0, 1, 0, 0, .null), (.getfield 7, 3, 10, 0, .ref 20), (.iconst 4, 1, 0, 0, .int 4), (.dup2, 1, 0, 0, .null), (.iaload, 1, 0, 0, .null), (.iconst 1, 1, 0, 0, .int 1), (.iadd, 1, 0, 0, .null), (.iastore, 1, 0, 0, .null)]) (L' := [some (.ref 93), some (.int x1), some (.int x2), some (.int q5.1), some (.int q6.1), some (.int (720 + (8 * (q6.2.1 94 (Int32.toNatClampNeg 4)))))]) (st' := []) (w' := ((jup q20.1 94 (Int32.toNatClampNeg 4) ((q20.1 94 (Int32.toNatClampNeg 4)) + 1)), q20.2)) (g := [jin 4 21000, jin 4 21000]) (K := [(94, 20), (94, 20), (94, 20), (93, 10)]) (by decide +kernel) rfl rfl rfl hg21 (jk1 kz_94 (jk1 kz_94 (jk1 kz_94 (jk1 kz_93 jk0)))) ?_
                refine jlw_c (P := fun w22 => Ev l G (jrm d_Model_move 0 0) y_Model_move (some (.int z.1), jR0, z.2) 0 0 0 0 188 [some (.ref 93), some (.int x1), some (.int x2), some (.int q5.1), some (.int q6.1), some (.int (720 + (8 * (q6.2.1 94 (Int32.toNatClampNeg 4)))))] [] jR0 w22) h fun w22 h => ?_
                obtain ⟨hg23, h⟩ := jgd h
                refine ev_seg (o := 10) (nL := 6) (q := 196) (xs := [(.aload_n 0, 1, 0, 0, .null), (.getfield 7, 3, 10, 0, .ref 20), (.iconst 4, 1, 0, 0, .int 4), (.iaload, 1, 0, 0, .null), (.iconst 1, 1, 0, 0, .int 1), (.isub, 1, 0, 0, .null)]) (L' := [some (.ref 93), some (.int x1), some (.int x2), some (.int q5.1), some (.int q6.1), some (.int (720 + (8 * (q6.2.1 94 (Int32.toNatClampNeg 4)))))]) (st' := [.int ((w22.1 94 (Int32.toNatClampNeg 4)) - 1)]) (w' := w22) (g := [jin 4 21000]) (K := [(94, 20), (94, 20), (93, 10)]) (by decide +kernel) rfl rfl rfl hg23 (jk1 kz_94 (jk1 kz_94 (jk1 kz_93 jk0))) ?_
                cases h
                exact ev_iret (by decide +kernel) rfl rfl rfl rfl
              · replace h := jneg c24 h
                refine ev_seg (o := 10) (nL := 6) (q := 83) (xs := [(.iconst (-1), 1, 0, 0, .int (-1))]) (L' := [some (.ref 93), some (.int x1), some (.int x2), some (.int q5.1), some (.int q6.1), none]) (st' := [.int (-1)]) (w' := q6.2) (g := []) (K := []) (by decide +kernel) rfl rfl rfl rfl jk0 ?_
                cases h
                exact ev_iret (by decide +kernel) rfl rfl rfl rfl
          · replace h := jpos c26 h
            refine ev_seg (o := 10) (nL := 6) (q := 53) (xs := [(.iconst (-1), 1, 0, 0, .int (-1))]) (L' := [some (.ref 93), some (.int x1), some (.int x2), some (.int q5.1), none, none]) (st' := [.int (-1)]) (w' := q5.2) (g := []) (K := []) (by decide +kernel) rfl rfl rfl rfl jk0 ?_
            cases h
            exact ev_iret (by decide +kernel) rfl rfl rfl rfl
      · replace h := jpos c28 h
        refine ev_seg (o := 10) (nL := 6) (q := 28) (xs := [(.iconst (-1), 1, 0, 0, .int (-1))]) (L' := [some (.ref 93), some (.int x1), some (.int x2), none, none, none]) (st' := [.int (-1)]) (w' := q2.2) (g := []) (K := []) (by decide +kernel) rfl rfl rfl rfl jk0 ?_
        cases h
        exact ev_iret (by decide +kernel) rfl rfl rfl rfl
def f_Model_clausesOf (x1 : Int32) (w : jW) : Option (Int32 × jW) :=
  if jal [jin (1680 + (800 * x1)) 21000] = true then
  some ((w.1 94 (Int32.toNatClampNeg (1680 + (800 * x1)))), w)
  else none
set_option maxRecDepth 20000 in
theorem e_Model_clausesOf {l : Launch} {G : jG} (hG : jX G) {x1 : Int32} {w : jW} {z : (Int32 × jW)} (h : f_Model_clausesOf x1 w = some z) : Ct l G y_Model_clausesOf d_Model_clausesOf 0 0 [.ref 93, .int x1] jR0 w (some (.int z.1), jR0, z.2) := by
  rw [f_Model_clausesOf] at h
  refine Ct.of (L := [some (.ref 93), some (.int x1)]) (by decide) (Nat.le_of_ble_eq_true rfl) rfl ?_
  obtain ⟨hg1, h⟩ := jgd h
  refine ev_seg (o := 10) (nL := 2) (q := 14) (xs := [(.aload_n 0, 1, 0, 0, .null), (.getfield 7, 3, 10, 0, .ref 20), (.sipush 1680, 3, 0, 0, .int 1680), (.sipush 800, 3, 0, 0, .int 800), (.iload_n 1, 1, 1, 0, .null), (.imul, 1, 0, 0, .null), (.iadd, 1, 0, 0, .null), (.iaload, 1, 0, 0, .null)]) (L' := [some (.ref 93), some (.int x1)]) (st' := [.int (w.1 94 (Int32.toNatClampNeg (1680 + (800 * x1))))]) (w' := w) (g := [jin (1680 + (800 * x1)) 21000]) (K := [(94, 20), (94, 20), (93, 10)]) (by decide +kernel) rfl rfl rfl hg1 (jk1 kz_94 (jk1 kz_94 (jk1 kz_93 jk0))) ?_
  cases h
  exact ev_iret (by decide +kernel) rfl rfl rfl rfl
def f_Model_clauseAt (x1 : Int32) (x2 : Int32) (w : jW) : Option (Int32 × jW) :=
  some ((((1680 + (800 * x1)) + 2) + (8 * x2)), w)
set_option maxRecDepth 20000 in
theorem e_Model_clauseAt {l : Launch} {G : jG} (hG : jX G) {x1 : Int32} {x2 : Int32} {w : jW} {z : (Int32 × jW)} (h : f_Model_clauseAt x1 x2 w = some z) : Ct l G y_Model_clauseAt d_Model_clauseAt 0 0 [.ref 93, .int x1, .int x2] jR0 w (some (.int z.1), jR0, z.2) := by
  rw [f_Model_clauseAt] at h
  refine Ct.of (L := [some (.ref 93), some (.int x1), some (.int x2)]) (by decide) (Nat.le_of_ble_eq_true rfl) rfl ?_
  refine ev_seg (o := 10) (nL := 3) (q := 16) (xs := [(.sipush 1680, 3, 0, 0, .int 1680), (.sipush 800, 3, 0, 0, .int 800), (.iload_n 1, 1, 1, 0, .null), (.imul, 1, 0, 0, .null), (.iadd, 1, 0, 0, .null), (.iconst 2, 1, 0, 0, .int 2), (.iadd, 1, 0, 0, .null), (.bipush 8, 2, 0, 0, .int 8), (.iload_n 2, 1, 2, 0, .null), (.imul, 1, 0, 0, .null), (.iadd, 1, 0, 0, .null)]) (L' := [some (.ref 93), some (.int x1), some (.int x2)]) (st' := [.int (((1680 + (800 * x1)) + 2) + (8 * x2))]) (w' := w) (g := []) (K := []) (by decide +kernel) rfl rfl rfl rfl jk0 ?_
  cases h
  exact ev_iret (by decide +kernel) rfl rfl rfl rfl
def f_Model_firstOf_h2 : Nat → Int32 → Int32 → Int32 → jW → Option (Int32 × jW)
  | 0, _, _, _, _ => none
  | n + 1, x1, x2, x3, w =>
  Option.bind (f_Model_clausesOf x1 w) fun q1 =>
  if x3 < q1.1 then
    Option.bind (f_Model_clauseAt x1 x3 q1.2) fun q2 =>
    if jal [jin q2.1 21000] = true then
    if (q2.2.1 94 (Int32.toNatClampNeg q2.1)) = x2 then
      Option.bind (f_Model_clauseAt x1 x3 q2.2) fun q4 =>
      some (q4.1, q4.2)
    else
      (f_Model_firstOf_h2 n) x1 x2 (x3 + 1) q2.2
    else none
  else
    some ((-1), q1.2)
set_option maxRecDepth 20000 in
theorem t_Model_firstOf_h2 {l : Launch} {G : jG} (hG : jX G) : ∀ (n : Nat) (x1 : Int32) (x2 : Int32) (x3 : Int32) (w : jW) (z : (Int32 × jW)), f_Model_firstOf_h2 n x1 x2 x3 w = some z → Ev l G (jrm d_Model_firstOf 0 0) y_Model_firstOf (some (.int z.1), jR0, z.2) 0 0 0 0 2 [some (.ref 93), some (.int x1), some (.int x2), some (.int x3)] [] jR0 w := by
  intro n
  induction n with
  | zero => intro x1 x2 x3 w z h; simp only [f_Model_firstOf_h2] at h; cases h
  | succ n ih =>
    intro x1 x2 x3 w z h
    rw [f_Model_firstOf_h2] at h
    refine ev_seg (o := 10) (nL := 4) (q := 5) (xs := [(.iload_n 3, 1, 3, 0, .null), (.aload_n 0, 1, 0, 0, .null), (.iload_n 1, 1, 1, 0, .null)]) (L' := [some (.ref 93), some (.int x1), some (.int x2), some (.int x3)]) (st' := [.int x1, .ref 93, .int x3]) (w' := w) (g := []) (K := []) (by decide +kernel) rfl rfl rfl rfl jk0 ?_
    obtain ⟨q1, hq1, h⟩ := jbe h
    refine ev_callV (ci := 10) (a := 93) (y2 := y_Model_clausesOf) (o := 10) (idx := 229) (d2 := d_Model_clausesOf) (n := 1) (mc2 := 0) (ms2 := 0) (As := [.int x1]) (st := [.int x3]) (res2 := (some (.int q1.1), jR0, q1.2)) (by decide +kernel) rfl lk_10_229 mo_Model_clausesOf mv_Model_clausesOf ⟨Nat.le_of_ble_eq_true rfl, Nat.le_of_ble_eq_true rfl⟩ rfl rfl kz_93 (by decide) rfl (Nat.le_of_ble_eq_true rfl) ⟨Nat.le_refl _, Nat.le_refl _⟩ hG (e_Model_clausesOf hG hq1) ?_
    refine ev_icmp_ge (off := 31) (tgt := 39) (by decide +kernel) (by decide) (fun c6 => ?_) (fun c6 => ?_)
    · replace h := jneg c6 h
      refine ev_seg (o := 10) (nL := 4) (q := 40) (xs := [(.iconst (-1), 1, 0, 0, .int (-1))]) (L' := [some (.ref 93), some (.int x1), some (.int x2), some (.int x3)]) (st' := [.int (-1)]) (w' := q1.2) (g := []) (K := []) (by decide +kernel) rfl rfl rfl rfl jk0 ?_
      cases h
      exact ev_iret (by decide +kernel) rfl rfl rfl rfl
    · replace h := jpos c6 h
      refine ev_seg (o := 10) (nL := 4) (q := 18) (xs := [(.aload_n 0, 1, 0, 0, .null), (.getfield 7, 3, 10, 0, .ref 20), (.aload_n 0, 1, 0, 0, .null), (.iload_n 1, 1, 1, 0, .null), (.iload_n 3, 1, 3, 0, .null)]) (L' := [some (.ref 93), some (.int x1), some (.int x2), some (.int x3)]) (st' := [.int x3, .int x1, .ref 93, .ref 94]) (w' := q1.2) (g := []) (K := [(94, 20), (93, 10)]) (by decide +kernel) rfl rfl rfl rfl (jk1 kz_94 (jk1 kz_93 jk0)) ?_
      obtain ⟨q2, hq2, h⟩ := jbe h
      refine ev_callV (ci := 10) (a := 93) (y2 := y_Model_clauseAt) (o := 10) (idx := 232) (d2 := d_Model_clauseAt) (n := 2) (mc2 := 0) (ms2 := 0) (As := [.int x1, .int x3]) (st := [.ref 94]) (res2 := (some (.int q2.1), jR0, q2.2)) (by decide +kernel) rfl lk_10_232 mo_Model_clauseAt mv_Model_clauseAt ⟨Nat.le_of_ble_eq_true rfl, Nat.le_of_ble_eq_true rfl⟩ rfl rfl kz_93 (by decide) rfl (Nat.le_of_ble_eq_true rfl) ⟨Nat.le_refl _, Nat.le_refl _⟩ hG (e_Model_clauseAt hG hq2) ?_
      obtain ⟨hg3, h⟩ := jgd h
      refine ev_seg (o := 10) (nL := 4) (q := 23) (xs := [(.iaload, 1, 0, 0, .null), (.iload_n 2, 1, 2, 0, .null)]) (L' := [some (.ref 93), some (.int x1), some (.int x2), some (.int x3)]) (st' := [.int x2, .int (q2.2.1 94 (Int32.toNatClampNeg q2.1))]) (w' := q2.2) (g := [jin q2.1 21000]) (K := [(94, 20)]) (by decide +kernel) rfl rfl rfl hg3 (jk1 kz_94 jk0) ?_
      refine ev_icmp_ne (off := 10) (tgt := 33) (by decide +kernel) (by decide) (fun c5 => ?_) (fun c5 => ?_)
      · replace h := jneg c5 h
        refine ev_seg (o := 10) (nL := 4) (q := 2) (xs := [(.iinc 3 1, 3, 3, 0, .int 1), (.goto (-34), 3, 0, 0, .null)]) (L' := [some (.ref 93), some (.int x1), some (.int x2), some (.int (x3 + 1))]) (st' := []) (w' := q2.2) (g := []) (K := []) (by decide +kernel) rfl rfl rfl rfl jk0 ?_
        refine ev_mask [true, true, true, true] ?_
        exact ih _ _ _ _ _ h
      · replace h := jpos c5 h
        refine ev_seg (o := 10) (nL := 4) (q := 29) (xs := [(.aload_n 0, 1, 0, 0, .null), (.iload_n 1, 1, 1, 0, .null), (.iload_n 3, 1, 3, 0, .null)]) (L' := [some (.ref 93), some (.int x1), some (.int x2), some (.int x3)]) (st' := [.int x3, .int x1, .ref 93]) (w' := q2.2) (g := []) (K := []) (by decide +kernel) rfl rfl rfl rfl jk0 ?_
        obtain ⟨q4, hq4, h⟩ := jbe h
        refine ev_callV (ci := 10) (a := 93) (y2 := y_Model_clauseAt) (o := 10) (idx := 232) (d2 := d_Model_clauseAt) (n := 2) (mc2 := 0) (ms2 := 0) (As := [.int x1, .int x3]) (st := []) (res2 := (some (.int q4.1), jR0, q4.2)) (by decide +kernel) rfl lk_10_232 mo_Model_clauseAt mv_Model_clauseAt ⟨Nat.le_of_ble_eq_true rfl, Nat.le_of_ble_eq_true rfl⟩ rfl rfl kz_93 (by decide) rfl (Nat.le_of_ble_eq_true rfl) ⟨Nat.le_refl _, Nat.le_refl _⟩ hG (e_Model_clauseAt hG hq4) ?_
        cases h
        exact ev_iret (by decide +kernel) rfl rfl rfl rfl
def f_Model_firstOf (x1 : Int32) (x2 : Int32) (w : jW) : Option (Int32 × jW) :=
  f_Model_firstOf_h2 jfu x1 x2 0 w
set_option maxRecDepth 20000 in
theorem e_Model_firstOf {l : Launch} {G : jG} (hG : jX G) {x1 : Int32} {x2 : Int32} {w : jW} {z : (Int32 × jW)} (h : f_Model_firstOf x1 x2 w = some z) : Ct l G y_Model_firstOf d_Model_firstOf 0 0 [.ref 93, .int x1, .int x2] jR0 w (some (.int z.1), jR0, z.2) := by
  rw [f_Model_firstOf] at h
  refine Ct.of (L := [some (.ref 93), some (.int x1), some (.int x2), none]) (by decide) (Nat.le_of_ble_eq_true rfl) rfl ?_
  refine ev_seg (o := 10) (nL := 4) (q := 2) (xs := [(.iconst 0, 1, 0, 0, .int 0), (.istore_n 3, 1, 3, 0, .null)]) (L' := [some (.ref 93), some (.int x1), some (.int x2), some (.int 0)]) (st' := []) (w' := w) (g := []) (K := []) (by decide +kernel) rfl rfl rfl rfl jk0 ?_
  refine ev_mask [true, true, true, true] ?_
  exact t_Model_firstOf_h2 hG jfu _ _ _ _ _ h
def f_Model_textFor_h8 : Nat → Int32 → Int32 → Int32 → Int32 → Int32 → jW → Option (Int32 × jW)
  | 0, _, _, _, _, _, _ => none
  | n + 1, x1, x2, x3, x4, x5, w =>
  if jal [jin 6 21000] = true then
  if x5 < (w.1 94 (Int32.toNatClampNeg 6)) then
    if jal [jin ((1680 + (800 * x5)) + 1) 21000] = true then
    if (w.1 94 (Int32.toNatClampNeg ((1680 + (800 * x5)) + 1))) ≤ x2 then
      if (w.1 94 (Int32.toNatClampNeg ((1680 + (800 * x5)) + 1))) < x4 then
        (f_Model_textFor_h8 n) x1 x2 x3 x4 (x5 + 1) w
      else
        Option.bind (f_Model_firstOf x5 x1 w) fun q3 =>
        if q3.1 < 0 then
          (f_Model_textFor_h8 n) x1 x2 x3 x4 (x5 + 1) q3.2
        else
          (f_Model_textFor_h8 n) x1 x2 x5 (w.1 94 (Int32.toNatClampNeg ((1680 + (800 * x5)) + 1))) (x5 + 1) q3.2
    else
      (f_Model_textFor_h8 n) x1 x2 x3 x4 (x5 + 1) w
    else none
  else
    some (x3, w)
  else none
set_option maxRecDepth 20000 in
theorem t_Model_textFor_h8 {l : Launch} {G : jG} (hG : jX G) : ∀ (n : Nat) (x1 : Int32) (x2 : Int32) (x3 : Int32) (x4 : Int32) (x5 : Int32) (w : jW) (z : (Int32 × jW)), f_Model_textFor_h8 n x1 x2 x3 x4 x5 w = some z → Ev l G (jrm d_Model_textFor 0 0) y_Model_textFor (some (.int z.1), jR0, z.2) 0 0 0 0 8 [some (.ref 93), some (.int x1), some (.int x2), some (.int x3), some (.int x4), some (.int x5), none] [] jR0 w := by
  intro n
  induction n with
  | zero => intro x1 x2 x3 x4 x5 w z h; simp only [f_Model_textFor_h8] at h; cases h
  | succ n ih =>
    intro x1 x2 x3 x4 x5 w z h
    rw [f_Model_textFor_h8] at h
    obtain ⟨hg1, h⟩ := jgd h
    refine ev_seg (o := 10) (nL := 7) (q := 17) (xs := [(.iload 5, 2, 5, 0, .null), (.aload_n 0, 1, 0, 0, .null), (.getfield 7, 3, 10, 0, .ref 20), (.bipush 6, 2, 0, 0, .int 6), (.iaload, 1, 0, 0, .null)]) (L' := [some (.ref 93), some (.int x1), some (.int x2), some (.int x3), some (.int x4), some (.int x5), none]) (st' := [.int (w.1 94 (Int32.toNatClampNeg 6)), .int x5]) (w' := w) (g := [jin 6 21000]) (K := [(94, 20), (94, 20), (93, 10)]) (by decide +kernel) rfl rfl rfl hg1 (jk1 kz_94 (jk1 kz_94 (jk1 kz_93 jk0))) ?_
    refine ev_icmp_ge (off := 61) (tgt := 78) (by decide +kernel) (by decide) (fun c7 => ?_) (fun c7 => ?_)
    · replace h := jneg c7 h
      refine ev_seg (o := 10) (nL := 7) (q := 79) (xs := [(.iload_n 3, 1, 3, 0, .null)]) (L' := [some (.ref 93), some (.int x1), some (.int x2), some (.int x3), some (.int x4), some (.int x5), none]) (st' := [.int x3]) (w' := w) (g := []) (K := []) (by decide +kernel) rfl rfl rfl rfl jk0 ?_
      cases h
      exact ev_iret (by decide +kernel) rfl rfl rfl rfl
    · replace h := jpos c7 h
      obtain ⟨hg2, h⟩ := jgd h
      refine ev_seg (o := 10) (nL := 7) (q := 42) (xs := [(.aload_n 0, 1, 0, 0, .null), (.getfield 7, 3, 10, 0, .ref 20), (.sipush 1680, 3, 0, 0, .int 1680), (.sipush 800, 3, 0, 0, .int 800), (.iload 5, 2, 5, 0, .null), (.imul, 1, 0, 0, .null), (.iadd, 1, 0, 0, .null), (.iconst 1, 1, 0, 0, .int 1), (.iadd, 1, 0, 0, .null), (.iaload, 1, 0, 0, .null), (.istore 6, 2, 6, 0, .null), (.iload 6, 2, 6, 0, .null), (.iload_n 2, 1, 2, 0, .null)]) (L' := [some (.ref 93), some (.int x1), some (.int x2), some (.int x3), some (.int x4), some (.int x5), some (.int (w.1 94 (Int32.toNatClampNeg ((1680 + (800 * x5)) + 1))))]) (st' := [.int x2, .int (w.1 94 (Int32.toNatClampNeg ((1680 + (800 * x5)) + 1)))]) (w' := w) (g := [jin ((1680 + (800 * x5)) + 1) 21000]) (K := [(94, 20), (94, 20), (93, 10)]) (by decide +kernel) rfl rfl rfl hg2 (jk1 kz_94 (jk1 kz_94 (jk1 kz_93 jk0))) ?_
      refine ev_icmp_gt (off := 30) (tgt := 72) (by decide +kernel) (by decide) (fun c6 => ?_) (fun c6 => ?_)
      · replace h := jneg c6 h
        refine ev_seg (o := 10) (nL := 7) (q := 8) (xs := [(.iinc 5 1, 3, 5, 0, .int 1), (.goto (-67), 3, 0, 0, .null)]) (L' := [some (.ref 93), some (.int x1), some (.int x2), some (.int x3), some (.int x4), some (.int (x5 + 1)), some (.int (w.1 94 (Int32.toNatClampNeg ((1680 + (800 * x5)) + 1))))]) (st' := []) (w' := w) (g := []) (K := []) (by decide +kernel) rfl rfl rfl rfl jk0 ?_
        refine ev_mask [true, true, true, true, true, true, false] ?_
        exact ih _ _ _ _ _ _ _ h
      · replace h := jpos c6 h
        refine ev_seg (o := 10) (nL := 7) (q := 49) (xs := [(.iload 6, 2, 6, 0, .null), (.iload 4, 2, 4, 0, .null)]) (L' := [some (.ref 93), some (.int x1), some (.int x2), some (.int x3), some (.int x4), some (.int x5), some (.int (w.1 94 (Int32.toNatClampNeg ((1680 + (800 * x5)) + 1))))]) (st' := [.int x4, .int (w.1 94 (Int32.toNatClampNeg ((1680 + (800 * x5)) + 1)))]) (w' := w) (g := []) (K := []) (by decide +kernel) rfl rfl rfl rfl jk0 ?_
        refine ev_icmp_lt (off := 23) (tgt := 72) (by decide +kernel) (by decide) (fun c5 => ?_) (fun c5 => ?_)
        · replace h := jpos c5 h
          refine ev_seg (o := 10) (nL := 7) (q := 8) (xs := [(.iinc 5 1, 3, 5, 0, .int 1), (.goto (-67), 3, 0, 0, .null)]) (L' := [some (.ref 93), some (.int x1), some (.int x2), some (.int x3), some (.int x4), some (.int (x5 + 1)), some (.int (w.1 94 (Int32.toNatClampNeg ((1680 + (800 * x5)) + 1))))]) (st' := []) (w' := w) (g := []) (K := []) (by decide +kernel) rfl rfl rfl rfl jk0 ?_
          refine ev_mask [true, true, true, true, true, true, false] ?_
          exact ih _ _ _ _ _ _ _ h
        · replace h := jneg c5 h
          refine ev_seg (o := 10) (nL := 7) (q := 56) (xs := [(.aload_n 0, 1, 0, 0, .null), (.iload 5, 2, 5, 0, .null), (.iload_n 1, 1, 1, 0, .null)]) (L' := [some (.ref 93), some (.int x1), some (.int x2), some (.int x3), some (.int x4), some (.int x5), some (.int (w.1 94 (Int32.toNatClampNeg ((1680 + (800 * x5)) + 1))))]) (st' := [.int x1, .int x5, .ref 93]) (w' := w) (g := []) (K := []) (by decide +kernel) rfl rfl rfl rfl jk0 ?_
          obtain ⟨q3, hq3, h⟩ := jbe h
          refine ev_callV (ci := 10) (a := 93) (y2 := y_Model_firstOf) (o := 10) (idx := 235) (d2 := d_Model_firstOf) (n := 2) (mc2 := 0) (ms2 := 0) (As := [.int x5, .int x1]) (st := []) (res2 := (some (.int q3.1), jR0, q3.2)) (by decide +kernel) rfl lk_10_235 mo_Model_firstOf mv_Model_firstOf ⟨Nat.le_of_ble_eq_true rfl, Nat.le_of_ble_eq_true rfl⟩ rfl rfl kz_93 (by decide) rfl (Nat.le_of_ble_eq_true rfl) ⟨Nat.le_refl _, Nat.le_refl _⟩ hG (e_Model_firstOf hG hq3) ?_
          refine ev_if_ge (off := 6) (tgt := 65) (by decide +kernel) (by decide) (fun c4 => ?_) (fun c4 => ?_)
          · replace h := jneg c4 h
            refine ev_seg (o := 10) (nL := 7) (q := 8) (xs := [(.iload 5, 2, 5, 0, .null), (.istore_n 3, 1, 3, 0, .null), (.iload 6, 2, 6, 0, .null), (.istore 4, 2, 4, 0, .null), (.iinc 5 1, 3, 5, 0, .int 1), (.goto (-67), 3, 0, 0, .null)]) (L' := [some (.ref 93), some (.int x1), some (.int x2), some (.int x5), some (.int (w.1 94 (Int32.toNatClampNeg ((1680 + (800 * x5)) + 1)))), some (.int (x5 + 1)), some (.int (w.1 94 (Int32.toNatClampNeg ((1680 + (800 * x5)) + 1))))]) (st' := []) (w' := q3.2) (g := []) (K := []) (by decide +kernel) rfl rfl rfl rfl jk0 ?_
            refine ev_mask [true, true, true, true, true, true, false] ?_
            exact ih _ _ _ _ _ _ _ h
          · replace h := jpos c4 h
            refine ev_seg (o := 10) (nL := 7) (q := 8) (xs := [(.goto 10, 3, 0, 0, .null), (.iinc 5 1, 3, 5, 0, .int 1), (.goto (-67), 3, 0, 0, .null)]) (L' := [some (.ref 93), some (.int x1), some (.int x2), some (.int x3), some (.int x4), some (.int (x5 + 1)), some (.int (w.1 94 (Int32.toNatClampNeg ((1680 + (800 * x5)) + 1))))]) (st' := []) (w' := q3.2) (g := []) (K := []) (by decide +kernel) rfl rfl rfl rfl jk0 ?_
            refine ev_mask [true, true, true, true, true, true, false] ?_
            exact ih _ _ _ _ _ _ _ h
def f_Model_textFor (x1 : Int32) (x2 : Int32) (w : jW) : Option (Int32 × jW) :=
  f_Model_textFor_h8 jfu x1 x2 (-1) (-1) 0 w
set_option maxRecDepth 20000 in
theorem e_Model_textFor {l : Launch} {G : jG} (hG : jX G) {x1 : Int32} {x2 : Int32} {w : jW} {z : (Int32 × jW)} (h : f_Model_textFor x1 x2 w = some z) : Ct l G y_Model_textFor d_Model_textFor 0 0 [.ref 93, .int x1, .int x2] jR0 w (some (.int z.1), jR0, z.2) := by
  rw [f_Model_textFor] at h
  refine Ct.of (L := [some (.ref 93), some (.int x1), some (.int x2), none, none, none, none]) (by decide) (Nat.le_of_ble_eq_true rfl) rfl ?_
  refine ev_seg (o := 10) (nL := 7) (q := 8) (xs := [(.iconst (-1), 1, 0, 0, .int (-1)), (.istore_n 3, 1, 3, 0, .null), (.iconst (-1), 1, 0, 0, .int (-1)), (.istore 4, 2, 4, 0, .null), (.iconst 0, 1, 0, 0, .int 0), (.istore 5, 2, 5, 0, .null)]) (L' := [some (.ref 93), some (.int x1), some (.int x2), some (.int (-1)), some (.int (-1)), some (.int 0), none]) (st' := []) (w' := w) (g := []) (K := []) (by decide +kernel) rfl rfl rfl rfl jk0 ?_
  refine ev_mask [true, true, true, true, true, true, false] ?_
  exact t_Model_textFor_h8 hG jfu _ _ _ _ _ _ _ h
def f_Model_limitOf_h13 : Nat → Int32 → Int32 → Int32 → Int32 → jW → Option (Int32 × jW)
  | 0, _, _, _, _, _ => none
  | n + 1, x1, x2, x3, x4, w =>
  if x2 < 0 then
    some (x3, w)
  else
    Option.bind (f_Model_clausesOf x2 w) fun q2 =>
    if x4 < q2.1 then
      Option.bind (f_Model_clauseAt x2 x4 q2.2) fun q3 =>
      if jal [jin q3.1 21000] = true then
      if (q3.2.1 94 (Int32.toNatClampNeg q3.1)) = 2 then
        if jal [jin (q3.1 + 3) 21000, jin (q3.1 + 2) 21000] = true then
        Option.bind (f_Model_isIn x1 (q3.2.1 94 (Int32.toNatClampNeg (q3.1 + 2))) (q3.2.1 94 (Int32.toNatClampNeg (q3.1 + 3))) q3.2) fun q6 =>
        if q6.1 = 0 then
          (f_Model_limitOf_h13 n) x1 x2 x3 (x4 + 1) q6.2
        else
          if jal [jin (q3.1 + 1) 21000] = true then
          if (q6.2.1 94 (Int32.toNatClampNeg (q3.1 + 1))) < x3 then
            if jal [jin (q3.1 + 1) 21000] = true then
            (f_Model_limitOf_h13 n) x1 x2 (q6.2.1 94 (Int32.toNatClampNeg (q3.1 + 1))) (x4 + 1) q6.2
            else none
          else
            (f_Model_limitOf_h13 n) x1 x2 x3 (x4 + 1) q6.2
          else none
        else none
      else
        (f_Model_limitOf_h13 n) x1 x2 x3 (x4 + 1) q3.2
      else none
    else
      some (x3, q2.2)
set_option maxRecDepth 20000 in
theorem t_Model_limitOf_h13 {l : Launch} {G : jG} (hG : jX G) : ∀ (n : Nat) (x1 : Int32) (x2 : Int32) (x3 : Int32) (x4 : Int32) (w : jW) (z : (Int32 × jW)), f_Model_limitOf_h13 n x1 x2 x3 x4 w = some z → Ev l G (jrm d_Model_limitOf 0 0) y_Model_limitOf (some (.int z.1), jR0, z.2) 0 0 0 0 13 [some (.ref 93), some (.int x1), some (.int x2), some (.int x3), some (.int x4), none] [] jR0 w := by
  intro n
  induction n with
  | zero => intro x1 x2 x3 x4 w z h; simp only [f_Model_limitOf_h13] at h; cases h
  | succ n ih =>
    intro x1 x2 x3 x4 w z h
    rw [f_Model_limitOf_h13] at h
    refine ev_seg (o := 10) (nL := 6) (q := 14) (xs := [(.iload_n 2, 1, 2, 0, .null)]) (L' := [some (.ref 93), some (.int x1), some (.int x2), some (.int x3), some (.int x4), none]) (st' := [.int x2]) (w' := w) (g := []) (K := []) (by decide +kernel) rfl rfl rfl rfl jk0 ?_
    refine ev_if_lt (off := 87) (tgt := 101) (by decide +kernel) (by decide) (fun c13 => ?_) (fun c13 => ?_)
    · replace h := jpos c13 h
      refine ev_seg (o := 10) (nL := 6) (q := 102) (xs := [(.iload_n 3, 1, 3, 0, .null)]) (L' := [some (.ref 93), some (.int x1), some (.int x2), some (.int x3), some (.int x4), none]) (st' := [.int x3]) (w' := w) (g := []) (K := []) (by decide +kernel) rfl rfl rfl rfl jk0 ?_
      cases h
      exact ev_iret (by decide +kernel) rfl rfl rfl rfl
    · replace h := jneg c13 h
      refine ev_seg (o := 10) (nL := 6) (q := 21) (xs := [(.iload 4, 2, 4, 0, .null), (.aload_n 0, 1, 0, 0, .null), (.iload_n 2, 1, 2, 0, .null)]) (L' := [some (.ref 93), some (.int x1), some (.int x2), some (.int x3), some (.int x4), none]) (st' := [.int x2, .ref 93, .int x4]) (w' := w) (g := []) (K := []) (by decide +kernel) rfl rfl rfl rfl jk0 ?_
      obtain ⟨q2, hq2, h⟩ := jbe h
      refine ev_callV (ci := 10) (a := 93) (y2 := y_Model_clausesOf) (o := 10) (idx := 229) (d2 := d_Model_clausesOf) (n := 1) (mc2 := 0) (ms2 := 0) (As := [.int x2]) (st := [.int x4]) (res2 := (some (.int q2.1), jR0, q2.2)) (by decide +kernel) rfl lk_10_229 mo_Model_clausesOf mv_Model_clausesOf ⟨Nat.le_of_ble_eq_true rfl, Nat.le_of_ble_eq_true rfl⟩ rfl rfl kz_93 (by decide) rfl (Nat.le_of_ble_eq_true rfl) ⟨Nat.le_refl _, Nat.le_refl _⟩ hG (e_Model_clausesOf hG hq2) ?_
      refine ev_icmp_ge (off := 77) (tgt := 101) (by decide +kernel) (by decide) (fun c12 => ?_) (fun c12 => ?_)
      · replace h := jneg c12 h
        refine ev_seg (o := 10) (nL := 6) (q := 102) (xs := [(.iload_n 3, 1, 3, 0, .null)]) (L' := [some (.ref 93), some (.int x1), some (.int x2), some (.int x3), some (.int x4), none]) (st' := [.int x3]) (w' := q2.2) (g := []) (K := []) (by decide +kernel) rfl rfl rfl rfl jk0 ?_
        cases h
        exact ev_iret (by decide +kernel) rfl rfl rfl rfl
      · replace h := jpos c12 h
        refine ev_seg (o := 10) (nL := 6) (q := 31) (xs := [(.aload_n 0, 1, 0, 0, .null), (.iload_n 2, 1, 2, 0, .null), (.iload 4, 2, 4, 0, .null)]) (L' := [some (.ref 93), some (.int x1), some (.int x2), some (.int x3), some (.int x4), none]) (st' := [.int x4, .int x2, .ref 93]) (w' := q2.2) (g := []) (K := []) (by decide +kernel) rfl rfl rfl rfl jk0 ?_
        obtain ⟨q3, hq3, h⟩ := jbe h
        refine ev_callV (ci := 10) (a := 93) (y2 := y_Model_clauseAt) (o := 10) (idx := 232) (d2 := d_Model_clauseAt) (n := 2) (mc2 := 0) (ms2 := 0) (As := [.int x2, .int x4]) (st := []) (res2 := (some (.int q3.1), jR0, q3.2)) (by decide +kernel) rfl lk_10_232 mo_Model_clauseAt mv_Model_clauseAt ⟨Nat.le_of_ble_eq_true rfl, Nat.le_of_ble_eq_true rfl⟩ rfl rfl kz_93 (by decide) rfl (Nat.le_of_ble_eq_true rfl) ⟨Nat.le_refl _, Nat.le_refl _⟩ hG (e_Model_clauseAt hG hq3) ?_
        obtain ⟨hg4, h⟩ := jgd h
        refine ev_seg (o := 10) (nL := 6) (q := 44) (xs := [(.istore 5, 2, 5, 0, .null), (.aload_n 0, 1, 0, 0, .null), (.getfield 7, 3, 10, 0, .ref 20), (.iload 5, 2, 5, 0, .null), (.iaload, 1, 0, 0, .null), (.iconst 2, 1, 0, 0, .int 2)]) (L' := [some (.ref 93), some (.int x1), some (.int x2), some (.int x3), some (.int x4), some (.int q3.1)]) (st' := [.int 2, .int (q3.2.1 94 (Int32.toNatClampNeg q3.1))]) (w' := q3.2) (g := [jin q3.1 21000]) (K := [(94, 20), (94, 20), (93, 10)]) (by decide +kernel) rfl rfl rfl hg4 (jk1 kz_94 (jk1 kz_94 (jk1 kz_93 jk0))) ?_
        refine ev_icmp_ne (off := 51) (tgt := 95) (by decide +kernel) (by decide) (fun c11 => ?_) (fun c11 => ?_)
        · replace h := jneg c11 h
          refine ev_seg (o := 10) (nL := 6) (q := 13) (xs := [(.iinc 4 1, 3, 4, 0, .int 1), (.goto (-85), 3, 0, 0, .null)]) (L' := [some (.ref 93), some (.int x1), some (.int x2), some (.int x3), some (.int (x4 + 1)), some (.int q3.1)]) (st' := []) (w' := q3.2) (g := []) (K := []) (by decide +kernel) rfl rfl rfl rfl jk0 ?_
          refine ev_mask [true, true, true, true, true, false] ?_
          exact ih _ _ _ _ _ _ h
        · replace h := jpos c11 h
          obtain ⟨hg5, h⟩ := jgd h
          refine ev_seg (o := 10) (nL := 6) (q := 66) (xs := [(.iload_n 1, 1, 1, 0, .null), (.aload_n 0, 1, 0, 0, .null), (.getfield 7, 3, 10, 0, .ref 20), (.iload 5, 2, 5, 0, .null), (.iconst 2, 1, 0, 0, .int 2), (.iadd, 1, 0, 0, .null), (.iaload, 1, 0, 0, .null), (.aload_n 0, 1, 0, 0, .null), (.getfield 7, 3, 10, 0, .ref 20), (.iload 5, 2, 5, 0, .null), (.iconst 3, 1, 0, 0, .int 3), (.iadd, 1, 0, 0, .null), (.iaload, 1, 0, 0, .null)]) (L' := [some (.ref 93), some (.int x1), some (.int x2), some (.int x3), some (.int x4), some (.int q3.1)]) (st' := [.int (q3.2.1 94 (Int32.toNatClampNeg (q3.1 + 3))), .int (q3.2.1 94 (Int32.toNatClampNeg (q3.1 + 2))), .int x1]) (w' := q3.2) (g := [jin (q3.1 + 3) 21000, jin (q3.1 + 2) 21000]) (K := [(94, 20), (94, 20), (93, 10), (94, 20), (94, 20), (93, 10)]) (by decide +kernel) rfl rfl rfl hg5 (jk1 kz_94 (jk1 kz_94 (jk1 kz_93 (jk1 kz_94 (jk1 kz_94 (jk1 kz_93 jk0)))))) ?_
          obtain ⟨q6, hq6, h⟩ := jbe h
          refine ev_callS (y2 := y_Model_isIn) (o := 10) (idx := 46) (d2 := d_Model_isIn) (n := 3) (mc2 := 0) (ms2 := 0) (As := [.int x1, .int (q3.2.1 94 (Int32.toNatClampNeg (q3.1 + 2))), .int (q3.2.1 94 (Int32.toNatClampNeg (q3.1 + 3)))]) (st := []) (res2 := (some (.int q6.1), jR0, q6.2)) (by decide +kernel) rfl lk_10_46 mo_Model_isIn ms_Model_isIn ⟨Nat.le_of_ble_eq_true rfl, Nat.le_of_ble_eq_true rfl⟩ rfl rfl (Nat.le_of_ble_eq_true rfl) ⟨Nat.le_refl _, Nat.le_refl _⟩ hG (e_Model_isIn hG hq6) ?_
          refine ev_if_eq (off := 26) (tgt := 95) (by decide +kernel) (by decide) (fun c10 => ?_) (fun c10 => ?_)
          · replace h := jpos c10 h
            refine ev_seg (o := 10) (nL := 6) (q := 13) (xs := [(.iinc 4 1, 3, 4, 0, .int 1), (.goto (-85), 3, 0, 0, .null)]) (L' := [some (.ref 93), some (.int x1), some (.int x2), some (.int x3), some (.int (x4 + 1)), some (.int q3.1)]) (st' := []) (w' := q6.2) (g := []) (K := []) (by decide +kernel) rfl rfl rfl rfl jk0 ?_
            refine ev_mask [true, true, true, true, true, false] ?_
            exact ih _ _ _ _ _ _ h
          · replace h := jneg c10 h
            obtain ⟨hg7, h⟩ := jgd h
            refine ev_seg (o := 10) (nL := 6) (q := 82) (xs := [(.aload_n 0, 1, 0, 0, .null), (.getfield 7, 3, 10, 0, .ref 20), (.iload 5, 2, 5, 0, .null), (.iconst 1, 1, 0, 0, .int 1), (.iadd, 1, 0, 0, .null), (.iaload, 1, 0, 0, .null), (.iload_n 3, 1, 3, 0, .null)]) (L' := [some (.ref 93), some (.int x1), some (.int x2), some (.int x3), some (.int x4), some (.int q3.1)]) (st' := [.int x3, .int (q6.2.1 94 (Int32.toNatClampNeg (q3.1 + 1)))]) (w' := q6.2) (g := [jin (q3.1 + 1) 21000]) (K := [(94, 20), (94, 20), (93, 10)]) (by decide +kernel) rfl rfl rfl hg7 (jk1 kz_94 (jk1 kz_94 (jk1 kz_93 jk0))) ?_
            refine ev_icmp_ge (off := 13) (tgt := 95) (by decide +kernel) (by decide) (fun c9 => ?_) (fun c9 => ?_)
            · replace h := jneg c9 h
              refine ev_seg (o := 10) (nL := 6) (q := 13) (xs := [(.iinc 4 1, 3, 4, 0, .int 1), (.goto (-85), 3, 0, 0, .null)]) (L' := [some (.ref 93), some (.int x1), some (.int x2), some (.int x3), some (.int (x4 + 1)), some (.int q3.1)]) (st' := []) (w' := q6.2) (g := []) (K := []) (by decide +kernel) rfl rfl rfl rfl jk0 ?_
              refine ev_mask [true, true, true, true, true, false] ?_
              exact ih _ _ _ _ _ _ h
            · replace h := jpos c9 h
              obtain ⟨hg8, h⟩ := jgd h
              refine ev_seg (o := 10) (nL := 6) (q := 13) (xs := [(.aload_n 0, 1, 0, 0, .null), (.getfield 7, 3, 10, 0, .ref 20), (.iload 5, 2, 5, 0, .null), (.iconst 1, 1, 0, 0, .int 1), (.iadd, 1, 0, 0, .null), (.iaload, 1, 0, 0, .null), (.istore_n 3, 1, 3, 0, .null), (.iinc 4 1, 3, 4, 0, .int 1), (.goto (-85), 3, 0, 0, .null)]) (L' := [some (.ref 93), some (.int x1), some (.int x2), some (.int (q6.2.1 94 (Int32.toNatClampNeg (q3.1 + 1)))), some (.int (x4 + 1)), some (.int q3.1)]) (st' := []) (w' := q6.2) (g := [jin (q3.1 + 1) 21000]) (K := [(94, 20), (94, 20), (93, 10)]) (by decide +kernel) rfl rfl rfl hg8 (jk1 kz_94 (jk1 kz_94 (jk1 kz_93 jk0))) ?_
              refine ev_mask [true, true, true, true, true, false] ?_
              exact ih _ _ _ _ _ _ h
def f_Model_limitOf (x1 : Int32) (w : jW) : Option (Int32 × jW) :=
  Option.bind (f_Model_textFor 2 x1 w) fun q1 =>
  f_Model_limitOf_h13 jfu x1 q1.1 99 0 q1.2
set_option maxRecDepth 20000 in
theorem e_Model_limitOf {l : Launch} {G : jG} (hG : jX G) {x1 : Int32} {w : jW} {z : (Int32 × jW)} (h : f_Model_limitOf x1 w = some z) : Ct l G y_Model_limitOf d_Model_limitOf 0 0 [.ref 93, .int x1] jR0 w (some (.int z.1), jR0, z.2) := by
  rw [f_Model_limitOf] at h
  refine Ct.of (L := [some (.ref 93), some (.int x1), none, none, none, none]) (by decide) (Nat.le_of_ble_eq_true rfl) rfl ?_
  refine ev_seg (o := 10) (nL := 6) (q := 3) (xs := [(.aload_n 0, 1, 0, 0, .null), (.iconst 2, 1, 0, 0, .int 2), (.iload_n 1, 1, 1, 0, .null)]) (L' := [some (.ref 93), some (.int x1), none, none, none, none]) (st' := [.int x1, .int 2, .ref 93]) (w' := w) (g := []) (K := []) (by decide +kernel) rfl rfl rfl rfl jk0 ?_
  obtain ⟨q1, hq1, h⟩ := jbe h
  refine ev_callV (ci := 10) (a := 93) (y2 := y_Model_textFor) (o := 10) (idx := 238) (d2 := d_Model_textFor) (n := 2) (mc2 := 0) (ms2 := 0) (As := [.int 2, .int x1]) (st := []) (res2 := (some (.int q1.1), jR0, q1.2)) (by decide +kernel) rfl lk_10_238 mo_Model_textFor mv_Model_textFor ⟨Nat.le_of_ble_eq_true rfl, Nat.le_of_ble_eq_true rfl⟩ rfl rfl kz_93 (by decide) rfl (Nat.le_of_ble_eq_true rfl) ⟨Nat.le_refl _, Nat.le_refl _⟩ hG (e_Model_textFor hG hq1) ?_
  refine ev_seg (o := 10) (nL := 6) (q := 13) (xs := [(.istore_n 2, 1, 2, 0, .null), (.bipush 99, 2, 0, 0, .int 99), (.istore_n 3, 1, 3, 0, .null), (.iconst 0, 1, 0, 0, .int 0), (.istore 4, 2, 4, 0, .null)]) (L' := [some (.ref 93), some (.int x1), some (.int q1.1), some (.int 99), some (.int 0), none]) (st' := []) (w' := q1.2) (g := []) (K := []) (by decide +kernel) rfl rfl rfl rfl jk0 ?_
  refine ev_mask [true, true, true, true, true, false] ?_
  exact t_Model_limitOf_h13 hG jfu _ _ _ _ _ _ h
def f_Model_numberOf (x1 : Int32) (x2 : Int32) (x3 : Int32) (x4 : Int32) (w : jW) : Option (Int32 × jW) :=
  Option.bind (f_Model_textFor x1 x2 w) fun q1 =>
  if q1.1 < 0 then
    some (x4, q1.2)
  else
    Option.bind (f_Model_firstOf q1.1 x1 q1.2) fun q2 =>
    if jal [jin (q2.1 + x3) 21000] = true then
    some ((q2.2.1 94 (Int32.toNatClampNeg (q2.1 + x3))), q2.2)
    else none
set_option maxRecDepth 20000 in
theorem e_Model_numberOf {l : Launch} {G : jG} (hG : jX G) {x1 : Int32} {x2 : Int32} {x3 : Int32} {x4 : Int32} {w : jW} {z : (Int32 × jW)} (h : f_Model_numberOf x1 x2 x3 x4 w = some z) : Ct l G y_Model_numberOf d_Model_numberOf 0 0 [.ref 93, .int x1, .int x2, .int x3, .int x4] jR0 w (some (.int z.1), jR0, z.2) := by
  rw [f_Model_numberOf] at h
  refine Ct.of (L := [some (.ref 93), some (.int x1), some (.int x2), some (.int x3), some (.int x4), none]) (by decide) (Nat.le_of_ble_eq_true rfl) rfl ?_
  refine ev_seg (o := 10) (nL := 6) (q := 3) (xs := [(.aload_n 0, 1, 0, 0, .null), (.iload_n 1, 1, 1, 0, .null), (.iload_n 2, 1, 2, 0, .null)]) (L' := [some (.ref 93), some (.int x1), some (.int x2), some (.int x3), some (.int x4), none]) (st' := [.int x2, .int x1, .ref 93]) (w' := w) (g := []) (K := []) (by decide +kernel) rfl rfl rfl rfl jk0 ?_
  obtain ⟨q1, hq1, h⟩ := jbe h
  refine ev_callV (ci := 10) (a := 93) (y2 := y_Model_textFor) (o := 10) (idx := 238) (d2 := d_Model_textFor) (n := 2) (mc2 := 0) (ms2 := 0) (As := [.int x1, .int x2]) (st := []) (res2 := (some (.int q1.1), jR0, q1.2)) (by decide +kernel) rfl lk_10_238 mo_Model_textFor mv_Model_textFor ⟨Nat.le_of_ble_eq_true rfl, Nat.le_of_ble_eq_true rfl⟩ rfl rfl kz_93 (by decide) rfl (Nat.le_of_ble_eq_true rfl) ⟨Nat.le_refl _, Nat.le_refl _⟩ hG (e_Model_textFor hG hq1) ?_
  refine ev_seg (o := 10) (nL := 6) (q := 10) (xs := [(.istore 5, 2, 5, 0, .null), (.iload 5, 2, 5, 0, .null)]) (L' := [some (.ref 93), some (.int x1), some (.int x2), some (.int x3), some (.int x4), some (.int q1.1)]) (st' := [.int q1.1]) (w' := q1.2) (g := []) (K := []) (by decide +kernel) rfl rfl rfl rfl jk0 ?_
  refine ev_if_ge (off := 8) (tgt := 18) (by decide +kernel) (by decide) (fun c4 => ?_) (fun c4 => ?_)
  · replace h := jneg c4 h
    refine ev_seg (o := 10) (nL := 6) (q := 26) (xs := [(.aload_n 0, 1, 0, 0, .null), (.getfield 7, 3, 10, 0, .ref 20), (.aload_n 0, 1, 0, 0, .null), (.iload 5, 2, 5, 0, .null), (.iload_n 1, 1, 1, 0, .null)]) (L' := [some (.ref 93), some (.int x1), some (.int x2), some (.int x3), some (.int x4), some (.int q1.1)]) (st' := [.int x1, .int q1.1, .ref 93, .ref 94]) (w' := q1.2) (g := []) (K := [(94, 20), (93, 10)]) (by decide +kernel) rfl rfl rfl rfl (jk1 kz_94 (jk1 kz_93 jk0)) ?_
    obtain ⟨q2, hq2, h⟩ := jbe h
    refine ev_callV (ci := 10) (a := 93) (y2 := y_Model_firstOf) (o := 10) (idx := 235) (d2 := d_Model_firstOf) (n := 2) (mc2 := 0) (ms2 := 0) (As := [.int q1.1, .int x1]) (st := [.ref 94]) (res2 := (some (.int q2.1), jR0, q2.2)) (by decide +kernel) rfl lk_10_235 mo_Model_firstOf mv_Model_firstOf ⟨Nat.le_of_ble_eq_true rfl, Nat.le_of_ble_eq_true rfl⟩ rfl rfl kz_93 (by decide) rfl (Nat.le_of_ble_eq_true rfl) ⟨Nat.le_refl _, Nat.le_refl _⟩ hG (e_Model_firstOf hG hq2) ?_
    obtain ⟨hg3, h⟩ := jgd h
    refine ev_seg (o := 10) (nL := 6) (q := 32) (xs := [(.iload_n 3, 1, 3, 0, .null), (.iadd, 1, 0, 0, .null), (.iaload, 1, 0, 0, .null)]) (L' := [some (.ref 93), some (.int x1), some (.int x2), some (.int x3), some (.int x4), some (.int q1.1)]) (st' := [.int (q2.2.1 94 (Int32.toNatClampNeg (q2.1 + x3)))]) (w' := q2.2) (g := [jin (q2.1 + x3) 21000]) (K := [(94, 20)]) (by decide +kernel) rfl rfl rfl hg3 (jk1 kz_94 jk0) ?_
    cases h
    exact ev_iret (by decide +kernel) rfl rfl rfl rfl
  · replace h := jpos c4 h
    refine ev_seg (o := 10) (nL := 6) (q := 32) (xs := [(.iload 4, 2, 4, 0, .null), (.goto 17, 3, 0, 0, .null)]) (L' := [some (.ref 93), some (.int x1), some (.int x2), some (.int x3), some (.int x4), some (.int q1.1)]) (st' := [.int x4]) (w' := q1.2) (g := []) (K := []) (by decide +kernel) rfl rfl rfl rfl jk0 ?_
    cases h
    exact ev_iret (by decide +kernel) rfl rfl rfl rfl
def f_Model_saysOf (x1 : Int32) (x2 : Int32) (w : jW) : Option (Int32 × jW) :=
  if x2 = 0 then
    Option.bind (f_Model_limitOf x1 w) fun q3 =>
    some (q3.1, q3.2)
  else
  if x2 = 1 then
    Option.bind (f_Model_numberOf 3 x1 1 30 w) fun q5 =>
    some (q5.1, q5.2)
  else
  if x2 = 2 then
    Option.bind (f_Model_numberOf 4 x1 1 99 w) fun q7 =>
    some (q7.1, q7.2)
  else
  if x2 = 3 then
    Option.bind (f_Model_numberOf 6 x1 1 3 w) fun q9 =>
    some (q9.1, q9.2)
  else
  if x2 = 4 then
    Option.bind (f_Model_numberOf 6 x1 2 0 w) fun q11 =>
    some (q11.1, q11.2)
  else
    Option.bind (f_Model_numberOf 7 x1 1 30 w) fun q1 =>
    some (q1.1, q1.2)
set_option maxRecDepth 20000 in
theorem e_Model_saysOf {l : Launch} {G : jG} (hG : jX G) {x1 : Int32} {x2 : Int32} {w : jW} {z : (Int32 × jW)} (h : f_Model_saysOf x1 x2 w = some z) : Ct l G y_Model_saysOf d_Model_saysOf 0 0 [.ref 93, .int x1, .int x2] jR0 w (some (.int z.1), jR0, z.2) := by
  rw [f_Model_saysOf] at h
  refine Ct.of (L := [some (.ref 93), some (.int x1), some (.int x2)]) (by decide) (Nat.le_of_ble_eq_true rfl) rfl ?_
  refine ev_seg (o := 10) (nL := 3) (q := 1) (xs := [(.iload_n 2, 1, 2, 0, .null)]) (L' := [some (.ref 93), some (.int x1), some (.int x2)]) (st' := [.int x2]) (w' := w) (g := []) (K := []) (by decide +kernel) rfl rfl rfl rfl jk0 ?_
  by_cases c2 : x2 = 0
  · replace h := jpos c2 h
    refine ev_tableIn (dflt := 81) (lo := 0) (hi := 4) (offs := #[35, 41, 51, 61, 71]) (len := 35) (off := 35) (tgt := 36) (by decide +kernel) (by rw [c2]; decide) (by rw [c2]; decide) (by rw [c2]; decide) (by decide) ?_
    refine ev_seg (o := 10) (nL := 3) (q := 38) (xs := [(.aload_n 0, 1, 0, 0, .null), (.iload_n 1, 1, 1, 0, .null)]) (L' := [some (.ref 93), some (.int x1), some (.int x2)]) (st' := [.int x1, .ref 93]) (w' := w) (g := []) (K := []) (by decide +kernel) rfl rfl rfl rfl jk0 ?_
    obtain ⟨q3, hq3, h⟩ := jbe h
    refine ev_callV (ci := 10) (a := 93) (y2 := y_Model_limitOf) (o := 10) (idx := 241) (d2 := d_Model_limitOf) (n := 1) (mc2 := 0) (ms2 := 0) (As := [.int x1]) (st := []) (res2 := (some (.int q3.1), jR0, q3.2)) (by decide +kernel) rfl lk_10_241 mo_Model_limitOf mv_Model_limitOf ⟨Nat.le_of_ble_eq_true rfl, Nat.le_of_ble_eq_true rfl⟩ rfl rfl kz_93 (by decide) rfl (Nat.le_of_ble_eq_true rfl) ⟨Nat.le_refl _, Nat.le_refl _⟩ hG (e_Model_limitOf hG hq3) ?_
    cases h
    exact ev_iret (by decide +kernel) rfl rfl rfl rfl
  · replace h := jneg c2 h
    by_cases c4 : x2 = 1
    · replace h := jpos c4 h
      refine ev_tableIn (dflt := 81) (lo := 0) (hi := 4) (offs := #[35, 41, 51, 61, 71]) (len := 35) (off := 41) (tgt := 42) (by decide +kernel) (by rw [c4]; decide) (by rw [c4]; decide) (by rw [c4]; decide) (by decide) ?_
      refine ev_seg (o := 10) (nL := 3) (q := 48) (xs := [(.aload_n 0, 1, 0, 0, .null), (.iconst 3, 1, 0, 0, .int 3), (.iload_n 1, 1, 1, 0, .null), (.iconst 1, 1, 0, 0, .int 1), (.bipush 30, 2, 0, 0, .int 30)]) (L' := [some (.ref 93), some (.int x1), some (.int x2)]) (st' := [.int 30, .int 1, .int x1, .int 3, .ref 93]) (w' := w) (g := []) (K := []) (by decide +kernel) rfl rfl rfl rfl jk0 ?_
      obtain ⟨q5, hq5, h⟩ := jbe h
      refine ev_callV (ci := 10) (a := 93) (y2 := y_Model_numberOf) (o := 10) (idx := 244) (d2 := d_Model_numberOf) (n := 4) (mc2 := 0) (ms2 := 0) (As := [.int 3, .int x1, .int 1, .int 30]) (st := []) (res2 := (some (.int q5.1), jR0, q5.2)) (by decide +kernel) rfl lk_10_244 mo_Model_numberOf mv_Model_numberOf ⟨Nat.le_of_ble_eq_true rfl, Nat.le_of_ble_eq_true rfl⟩ rfl rfl kz_93 (by decide) rfl (Nat.le_of_ble_eq_true rfl) ⟨Nat.le_refl _, Nat.le_refl _⟩ hG (e_Model_numberOf hG hq5) ?_
      cases h
      exact ev_iret (by decide +kernel) rfl rfl rfl rfl
    · replace h := jneg c4 h
      by_cases c6 : x2 = 2
      · replace h := jpos c6 h
        refine ev_tableIn (dflt := 81) (lo := 0) (hi := 4) (offs := #[35, 41, 51, 61, 71]) (len := 35) (off := 51) (tgt := 52) (by decide +kernel) (by rw [c6]; decide) (by rw [c6]; decide) (by rw [c6]; decide) (by decide) ?_
        refine ev_seg (o := 10) (nL := 3) (q := 58) (xs := [(.aload_n 0, 1, 0, 0, .null), (.iconst 4, 1, 0, 0, .int 4), (.iload_n 1, 1, 1, 0, .null), (.iconst 1, 1, 0, 0, .int 1), (.bipush 99, 2, 0, 0, .int 99)]) (L' := [some (.ref 93), some (.int x1), some (.int x2)]) (st' := [.int 99, .int 1, .int x1, .int 4, .ref 93]) (w' := w) (g := []) (K := []) (by decide +kernel) rfl rfl rfl rfl jk0 ?_
        obtain ⟨q7, hq7, h⟩ := jbe h
        refine ev_callV (ci := 10) (a := 93) (y2 := y_Model_numberOf) (o := 10) (idx := 244) (d2 := d_Model_numberOf) (n := 4) (mc2 := 0) (ms2 := 0) (As := [.int 4, .int x1, .int 1, .int 99]) (st := []) (res2 := (some (.int q7.1), jR0, q7.2)) (by decide +kernel) rfl lk_10_244 mo_Model_numberOf mv_Model_numberOf ⟨Nat.le_of_ble_eq_true rfl, Nat.le_of_ble_eq_true rfl⟩ rfl rfl kz_93 (by decide) rfl (Nat.le_of_ble_eq_true rfl) ⟨Nat.le_refl _, Nat.le_refl _⟩ hG (e_Model_numberOf hG hq7) ?_
        cases h
        exact ev_iret (by decide +kernel) rfl rfl rfl rfl
      · replace h := jneg c6 h
        by_cases c8 : x2 = 3
        · replace h := jpos c8 h
          refine ev_tableIn (dflt := 81) (lo := 0) (hi := 4) (offs := #[35, 41, 51, 61, 71]) (len := 35) (off := 61) (tgt := 62) (by decide +kernel) (by rw [c8]; decide) (by rw [c8]; decide) (by rw [c8]; decide) (by decide) ?_
          refine ev_seg (o := 10) (nL := 3) (q := 68) (xs := [(.aload_n 0, 1, 0, 0, .null), (.bipush 6, 2, 0, 0, .int 6), (.iload_n 1, 1, 1, 0, .null), (.iconst 1, 1, 0, 0, .int 1), (.iconst 3, 1, 0, 0, .int 3)]) (L' := [some (.ref 93), some (.int x1), some (.int x2)]) (st' := [.int 3, .int 1, .int x1, .int 6, .ref 93]) (w' := w) (g := []) (K := []) (by decide +kernel) rfl rfl rfl rfl jk0 ?_
          obtain ⟨q9, hq9, h⟩ := jbe h
          refine ev_callV (ci := 10) (a := 93) (y2 := y_Model_numberOf) (o := 10) (idx := 244) (d2 := d_Model_numberOf) (n := 4) (mc2 := 0) (ms2 := 0) (As := [.int 6, .int x1, .int 1, .int 3]) (st := []) (res2 := (some (.int q9.1), jR0, q9.2)) (by decide +kernel) rfl lk_10_244 mo_Model_numberOf mv_Model_numberOf ⟨Nat.le_of_ble_eq_true rfl, Nat.le_of_ble_eq_true rfl⟩ rfl rfl kz_93 (by decide) rfl (Nat.le_of_ble_eq_true rfl) ⟨Nat.le_refl _, Nat.le_refl _⟩ hG (e_Model_numberOf hG hq9) ?_
          cases h
          exact ev_iret (by decide +kernel) rfl rfl rfl rfl
        · replace h := jneg c8 h
          by_cases c10 : x2 = 4
          · replace h := jpos c10 h
            refine ev_tableIn (dflt := 81) (lo := 0) (hi := 4) (offs := #[35, 41, 51, 61, 71]) (len := 35) (off := 71) (tgt := 72) (by decide +kernel) (by rw [c10]; decide) (by rw [c10]; decide) (by rw [c10]; decide) (by decide) ?_
            refine ev_seg (o := 10) (nL := 3) (q := 78) (xs := [(.aload_n 0, 1, 0, 0, .null), (.bipush 6, 2, 0, 0, .int 6), (.iload_n 1, 1, 1, 0, .null), (.iconst 2, 1, 0, 0, .int 2), (.iconst 0, 1, 0, 0, .int 0)]) (L' := [some (.ref 93), some (.int x1), some (.int x2)]) (st' := [.int 0, .int 2, .int x1, .int 6, .ref 93]) (w' := w) (g := []) (K := []) (by decide +kernel) rfl rfl rfl rfl jk0 ?_
            obtain ⟨q11, hq11, h⟩ := jbe h
            refine ev_callV (ci := 10) (a := 93) (y2 := y_Model_numberOf) (o := 10) (idx := 244) (d2 := d_Model_numberOf) (n := 4) (mc2 := 0) (ms2 := 0) (As := [.int 6, .int x1, .int 2, .int 0]) (st := []) (res2 := (some (.int q11.1), jR0, q11.2)) (by decide +kernel) rfl lk_10_244 mo_Model_numberOf mv_Model_numberOf ⟨Nat.le_of_ble_eq_true rfl, Nat.le_of_ble_eq_true rfl⟩ rfl rfl kz_93 (by decide) rfl (Nat.le_of_ble_eq_true rfl) ⟨Nat.le_refl _, Nat.le_refl _⟩ hG (e_Model_numberOf hG hq11) ?_
            cases h
            exact ev_iret (by decide +kernel) rfl rfl rfl rfl
          · replace h := jneg c10 h
            have ec2 := lv_neT (a := 0) c2 rfl
            have ec4 := lv_neT (a := 1) c4 rfl
            have ec6 := lv_neT (a := 2) c6 rfl
            have ec8 := lv_neT (a := 3) c8 rfl
            have ec10 := lv_neT (a := 4) c10 rfl
            refine ev_tableOut (dflt := 81) (lo := 0) (hi := 4) (offs := #[35, 41, 51, 61, 71]) (len := 35) (tgt := 82) (by decide +kernel) (by omega) (by decide) ?_
            refine ev_seg (o := 10) (nL := 3) (q := 89) (xs := [(.aload_n 0, 1, 0, 0, .null), (.bipush 7, 2, 0, 0, .int 7), (.iload_n 1, 1, 1, 0, .null), (.iconst 1, 1, 0, 0, .int 1), (.bipush 30, 2, 0, 0, .int 30)]) (L' := [some (.ref 93), some (.int x1), some (.int x2)]) (st' := [.int 30, .int 1, .int x1, .int 7, .ref 93]) (w' := w) (g := []) (K := []) (by decide +kernel) rfl rfl rfl rfl jk0 ?_
            obtain ⟨q1, hq1, h⟩ := jbe h
            refine ev_callV (ci := 10) (a := 93) (y2 := y_Model_numberOf) (o := 10) (idx := 244) (d2 := d_Model_numberOf) (n := 4) (mc2 := 0) (ms2 := 0) (As := [.int 7, .int x1, .int 1, .int 30]) (st := []) (res2 := (some (.int q1.1), jR0, q1.2)) (by decide +kernel) rfl lk_10_244 mo_Model_numberOf mv_Model_numberOf ⟨Nat.le_of_ble_eq_true rfl, Nat.le_of_ble_eq_true rfl⟩ rfl rfl kz_93 (by decide) rfl (Nat.le_of_ble_eq_true rfl) ⟨Nat.le_refl _, Nat.le_refl _⟩ hG (e_Model_numberOf hG hq1) ?_
            cases h
            exact ev_iret (by decide +kernel) rfl rfl rfl rfl
def f_Model_step (x1 : Int32) (w : jW) : Option (Int32 × jW) :=
  Option.bind (f_Model_isThing x1 w) fun q1 =>
  if q1.1 = 0 then
    some ((-1), q1.2)
  else
    if jal [jin 0 21000] = true then
    Option.bind (f_Model_whereOf x1 (q1.2.1 94 (Int32.toNatClampNeg 0)) q1.2) fun q3 =>
    if q3.1 < 100 then
      Option.bind (f_Model_siteAt q3.1 1 q3.2) fun q4 =>
      if q4.1 = 3 then
        Option.bind (f_Model_thingAt x1 8 q4.2) fun q5 =>
        if jal [jin 0 21000] = true then
        if q5.1 = (q5.2.1 94 (Int32.toNatClampNeg 0)) then
          some ((-1), q5.2)
        else
          if jal [jin ((240 + (12 * x1)) + 8) 21000, jin ((240 + (12 * x1)) + 3) 21000] = true then
          Option.bind (f_Model_noted 2 (q5.2.1 94 (Int32.toNatClampNeg ((240 + (12 * x1)) + 3))) x1 (q5.2.1 94 (Int32.toNatClampNeg ((240 + (12 * x1)) + 8))) q5.2) fun q8 =>
          if jal [jin ((240 + (12 * x1)) + 6) 21000, jin ((240 + (12 * x1)) + 6) 21000] = true then
          jlw ((jup q8.1 94 (Int32.toNatClampNeg ((240 + (12 * x1)) + 6)) ((q8.1 94 (Int32.toNatClampNeg ((240 + (12 * x1)) + 6))) + 1)), q8.2) fun w10 =>
          if jal [jin ((240 + (12 * x1)) + 8) 21000, jin 0 21000] = true then
          jlw ((jup w10.1 94 (Int32.toNatClampNeg ((240 + (12 * x1)) + 8)) (w10.1 94 (Int32.toNatClampNeg 0))), w10.2) fun w12 =>
          if jal [jin 0 21000, jin ((240 + (12 * x1)) + 6) 21000] = true then
          Option.bind (f_Model_saysOf (w12.1 94 (Int32.toNatClampNeg 0)) 3 w12) fun q14 =>
          if (w12.1 94 (Int32.toNatClampNeg ((240 + (12 * x1)) + 6))) < q14.1 then
            if jal [jin ((240 + (12 * x1)) + 6) 21000] = true then
            some ((q14.2.1 94 (Int32.toNatClampNeg ((240 + (12 * x1)) + 6))), q14.2)
            else none
          else
            if jal [jin ((240 + (12 * x1)) + 7) 21000, jin 0 21000] = true then
            jlw ((jup q14.2.1 94 (Int32.toNatClampNeg ((240 + (12 * x1)) + 7)) (q14.2.1 94 (Int32.toNatClampNeg 0))), q14.2.2) fun w17 =>
            if jal [jin ((240 + (12 * x1)) + 6) 21000] = true then
            some ((w17.1 94 (Int32.toNatClampNeg ((240 + (12 * x1)) + 6))), w17)
            else none else none
          else none else none else none
          else none
        else none
      else
        some ((-1), q4.2)
    else
      some ((-1), q3.2)
    else none
set_option maxRecDepth 20000 in
theorem e_Model_step {l : Launch} {G : jG} (hG : jX G) {x1 : Int32} {w : jW} {z : (Int32 × jW)} (h : f_Model_step x1 w = some z) : Ct l G y_Model_step d_Model_step 0 0 [.ref 93, .int x1] jR0 w (some (.int z.1), jR0, z.2) := by
  rw [f_Model_step] at h
  refine Ct.of (L := [some (.ref 93), some (.int x1), none, none]) (by decide) (Nat.le_of_ble_eq_true rfl) rfl ?_
  refine ev_seg (o := 10) (nL := 4) (q := 2) (xs := [(.aload_n 0, 1, 0, 0, .null), (.iload_n 1, 1, 1, 0, .null)]) (L' := [some (.ref 93), some (.int x1), none, none]) (st' := [.int x1, .ref 93]) (w' := w) (g := []) (K := []) (by decide +kernel) rfl rfl rfl rfl jk0 ?_
  obtain ⟨q1, hq1, h⟩ := jbe h
  refine ev_callV (ci := 10) (a := 93) (y2 := y_Model_isThing) (o := 10) (idx := 72) (d2 := d_Model_isThing) (n := 1) (mc2 := 0) (ms2 := 0) (As := [.int x1]) (st := []) (res2 := (some (.int q1.1), jR0, q1.2)) (by decide +kernel) rfl lk_10_72 mo_Model_isThing mv_Model_isThing ⟨Nat.le_of_ble_eq_true rfl, Nat.le_of_ble_eq_true rfl⟩ rfl rfl kz_93 (by decide) rfl (Nat.le_of_ble_eq_true rfl) ⟨Nat.le_refl _, Nat.le_refl _⟩ hG (e_Model_isThing hG hq1) ?_
  refine ev_if_ne (off := 5) (tgt := 10) (by decide +kernel) (by decide) (fun c23 => ?_) (fun c23 => ?_)
  · replace h := jneg c23 h
    obtain ⟨hg2, h⟩ := jgd h
    refine ev_seg (o := 10) (nL := 4) (q := 18) (xs := [(.aload_n 0, 1, 0, 0, .null), (.iload_n 1, 1, 1, 0, .null), (.aload_n 0, 1, 0, 0, .null), (.getfield 7, 3, 10, 0, .ref 20), (.iconst 0, 1, 0, 0, .int 0), (.iaload, 1, 0, 0, .null)]) (L' := [some (.ref 93), some (.int x1), none, none]) (st' := [.int (q1.2.1 94 (Int32.toNatClampNeg 0)), .int x1, .ref 93]) (w' := q1.2) (g := [jin 0 21000]) (K := [(94, 20), (94, 20), (93, 10)]) (by decide +kernel) rfl rfl rfl hg2 (jk1 kz_94 (jk1 kz_94 (jk1 kz_93 jk0))) ?_
    obtain ⟨q3, hq3, h⟩ := jbe h
    refine ev_callV (ci := 10) (a := 93) (y2 := y_Model_whereOf) (o := 10) (idx := 78) (d2 := d_Model_whereOf) (n := 2) (mc2 := 0) (ms2 := 0) (As := [.int x1, .int (q1.2.1 94 (Int32.toNatClampNeg 0))]) (st := []) (res2 := (some (.int q3.1), jR0, q3.2)) (by decide +kernel) rfl lk_10_78 mo_Model_whereOf mv_Model_whereOf ⟨Nat.le_of_ble_eq_true rfl, Nat.le_of_ble_eq_true rfl⟩ rfl rfl kz_93 (by decide) rfl (Nat.le_of_ble_eq_true rfl) ⟨Nat.le_refl _, Nat.le_refl _⟩ hG (e_Model_whereOf hG hq3) ?_
    refine ev_seg (o := 10) (nL := 4) (q := 25) (xs := [(.istore_n 2, 1, 2, 0, .null), (.iload_n 2, 1, 2, 0, .null), (.bipush 100, 2, 0, 0, .int 100)]) (L' := [some (.ref 93), some (.int x1), some (.int q3.1), none]) (st' := [.int 100, .int q3.1]) (w' := q3.2) (g := []) (K := []) (by decide +kernel) rfl rfl rfl rfl jk0 ?_
    refine ev_icmp_ge (off := 29) (tgt := 54) (by decide +kernel) (by decide) (fun c22 => ?_) (fun c22 => ?_)
    · replace h := jneg c22 h
      refine ev_seg (o := 10) (nL := 4) (q := 55) (xs := [(.iconst (-1), 1, 0, 0, .int (-1))]) (L' := [some (.ref 93), some (.int x1), some (.int q3.1), none]) (st' := [.int (-1)]) (w' := q3.2) (g := []) (K := []) (by decide +kernel) rfl rfl rfl rfl jk0 ?_
      cases h
      exact ev_iret (by decide +kernel) rfl rfl rfl rfl
    · replace h := jpos c22 h
      refine ev_seg (o := 10) (nL := 4) (q := 31) (xs := [(.aload_n 0, 1, 0, 0, .null), (.iload_n 2, 1, 2, 0, .null), (.iconst 1, 1, 0, 0, .int 1)]) (L' := [some (.ref 93), some (.int x1), some (.int q3.1), none]) (st' := [.int 1, .int q3.1, .ref 93]) (w' := q3.2) (g := []) (K := []) (by decide +kernel) rfl rfl rfl rfl jk0 ?_
      obtain ⟨q4, hq4, h⟩ := jbe h
      refine ev_callV (ci := 10) (a := 93) (y2 := y_Model_siteAt) (o := 10) (idx := 54) (d2 := d_Model_siteAt) (n := 2) (mc2 := 0) (ms2 := 0) (As := [.int q3.1, .int 1]) (st := []) (res2 := (some (.int q4.1), jR0, q4.2)) (by decide +kernel) rfl lk_10_54 mo_Model_siteAt mv_Model_siteAt ⟨Nat.le_of_ble_eq_true rfl, Nat.le_of_ble_eq_true rfl⟩ rfl rfl kz_93 (by decide) rfl (Nat.le_of_ble_eq_true rfl) ⟨Nat.le_refl _, Nat.le_refl _⟩ hG (e_Model_siteAt hG hq4) ?_
      refine ev_seg (o := 10) (nL := 4) (q := 35) (xs := [(.iconst 3, 1, 0, 0, .int 3)]) (L' := [some (.ref 93), some (.int x1), some (.int q3.1), none]) (st' := [.int 3, .int q4.1]) (w' := q4.2) (g := []) (K := []) (by decide +kernel) rfl rfl rfl rfl jk0 ?_
      refine ev_icmp_ne (off := 19) (tgt := 54) (by decide +kernel) (by decide) (fun c21 => ?_) (fun c21 => ?_)
      · replace h := jneg c21 h
        refine ev_seg (o := 10) (nL := 4) (q := 55) (xs := [(.iconst (-1), 1, 0, 0, .int (-1))]) (L' := [some (.ref 93), some (.int x1), some (.int q3.1), none]) (st' := [.int (-1)]) (w' := q4.2) (g := []) (K := []) (by decide +kernel) rfl rfl rfl rfl jk0 ?_
        cases h
        exact ev_iret (by decide +kernel) rfl rfl rfl rfl
      · replace h := jpos c21 h
        refine ev_seg (o := 10) (nL := 4) (q := 42) (xs := [(.aload_n 0, 1, 0, 0, .null), (.iload_n 1, 1, 1, 0, .null), (.bipush 8, 2, 0, 0, .int 8)]) (L' := [some (.ref 93), some (.int x1), some (.int q3.1), none]) (st' := [.int 8, .int x1, .ref 93]) (w' := q4.2) (g := []) (K := []) (by decide +kernel) rfl rfl rfl rfl jk0 ?_
        obtain ⟨q5, hq5, h⟩ := jbe h
        refine ev_callV (ci := 10) (a := 93) (y2 := y_Model_thingAt) (o := 10) (idx := 66) (d2 := d_Model_thingAt) (n := 2) (mc2 := 0) (ms2 := 0) (As := [.int x1, .int 8]) (st := []) (res2 := (some (.int q5.1), jR0, q5.2)) (by decide +kernel) rfl lk_10_66 mo_Model_thingAt mv_Model_thingAt ⟨Nat.le_of_ble_eq_true rfl, Nat.le_of_ble_eq_true rfl⟩ rfl rfl kz_93 (by decide) rfl (Nat.le_of_ble_eq_true rfl) ⟨Nat.le_refl _, Nat.le_refl _⟩ hG (e_Model_thingAt hG hq5) ?_
        obtain ⟨hg6, h⟩ := jgd h
        refine ev_seg (o := 10) (nL := 4) (q := 51) (xs := [(.aload_n 0, 1, 0, 0, .null), (.getfield 7, 3, 10, 0, .ref 20), (.iconst 0, 1, 0, 0, .int 0), (.iaload, 1, 0, 0, .null)]) (L' := [some (.ref 93), some (.int x1), some (.int q3.1), none]) (st' := [.int (q5.2.1 94 (Int32.toNatClampNeg 0)), .int q5.1]) (w' := q5.2) (g := [jin 0 21000]) (K := [(94, 20), (94, 20), (93, 10)]) (by decide +kernel) rfl rfl rfl hg6 (jk1 kz_94 (jk1 kz_94 (jk1 kz_93 jk0))) ?_
        refine ev_icmp_ne (off := 5) (tgt := 56) (by decide +kernel) (by decide) (fun c20 => ?_) (fun c20 => ?_)
        · replace h := jneg c20 h
          obtain ⟨hg7, h⟩ := jgd h
          refine ev_seg (o := 10) (nL := 4) (q := 85) (xs := [(.sipush 240, 3, 0, 0, .int 240), (.bipush 12, 2, 0, 0, .int 12), (.iload_n 1, 1, 1, 0, .null), (.imul, 1, 0, 0, .null), (.iadd, 1, 0, 0, .null), (.istore_n 3, 1, 3, 0, .null), (.aload_n 0, 1, 0, 0, .null), (.iconst 2, 1, 0, 0, .int 2), (.aload_n 0, 1, 0, 0, .null), (.getfield 7, 3, 10, 0, .ref 20), (.iload_n 3, 1, 3, 0, .null), (.iconst 3, 1, 0, 0, .int 3), (.iadd, 1, 0, 0, .null), (.iaload, 1, 0, 0, .null), (.iload_n 1, 1, 1, 0, .null), (.aload_n 0, 1, 0, 0, .null), (.getfield 7, 3, 10, 0, .ref 20), (.iload_n 3, 1, 3, 0, .null), (.bipush 8, 2, 0, 0, .int 8), (.iadd, 1, 0, 0, .null), (.iaload, 1, 0, 0, .null)]) (L' := [some (.ref 93), some (.int x1), some (.int q3.1), some (.int (240 + (12 * x1)))]) (st' := [.int (q5.2.1 94 (Int32.toNatClampNeg ((240 + (12 * x1)) + 8))), .int x1, .int (q5.2.1 94 (Int32.toNatClampNeg ((240 + (12 * x1)) + 3))), .int 2, .ref 93]) (w' := q5.2) (g := [jin ((240 + (12 * x1)) + 8) 21000, jin ((240 + (12 * x1)) + 3) 21000]) (K := [(94, 20), (94, 20), (93, 10), (94, 20), (94, 20), (93, 10)]) (by decide +kernel) rfl rfl rfl hg7 (jk1 kz_94 (jk1 kz_94 (jk1 kz_93 (jk1 kz_94 (jk1 kz_94 (jk1 kz_93 jk0)))))) ?_
          obtain ⟨q8, hq8, h⟩ := jbe h
          refine ev_callV (ci := 10) (a := 93) (y2 := y_Model_noted) (o := 10) (idx := 62) (d2 := d_Model_noted) (n := 4) (mc2 := 0) (ms2 := 0) (As := [.int 2, .int (q5.2.1 94 (Int32.toNatClampNeg ((240 + (12 * x1)) + 3))), .int x1, .int (q5.2.1 94 (Int32.toNatClampNeg ((240 + (12 * x1)) + 8)))]) (st := []) (res2 := (none, jR0, q8)) (by decide +kernel) rfl lk_10_62 mo_Model_noted mv_Model_noted ⟨Nat.le_of_ble_eq_true rfl, Nat.le_of_ble_eq_true rfl⟩ rfl rfl kz_93 (by decide) rfl (Nat.le_of_ble_eq_true rfl) ⟨Nat.le_refl _, Nat.le_refl _⟩ hG (e_Model_noted hG hq8) ?_
          obtain ⟨hg9, h⟩ := jgd h
          refine ev_seg (o := 10) (nL := 4) (q := 101) (xs := [(.aload_n 0, 1, 0, 0, .null), (.getfield 7, 3, 10, 0, .ref 20), (.iload_n 3, 1, 3, 0, .null), (.bipush 6, 2, 0, 0, .int 6), (.iadd, 1, 0, 0, .null), (.dup2, 1, 0, 0, .null), (.iaload, 1, 0, 0, .null), (.iconst 1, 1, 0, 0, .int 1), (.iadd, 1, 0, 0, .null), (.iastore, 1, 0, 0, .null)]) (L' := [some (.ref 93), some (.int x1), some (.int q3.1), some (.int (240 + (12 * x1)))]) (st' := []) (w' := ((jup q8.1 94 (Int32.toNatClampNeg ((240 + (12 * x1)) + 6)) ((q8.1 94 (Int32.toNatClampNeg ((240 + (12 * x1)) + 6))) + 1)), q8.2)) (g := [jin ((240 + (12 * x1)) + 6) 21000, jin ((240 + (12 * x1)) + 6) 21000]) (K := [(94, 20), (94, 20), (94, 20), (93, 10)]) (by decide +kernel) rfl rfl rfl hg9 (jk1 kz_94 (jk1 kz_94 (jk1 kz_94 (jk1 kz_93 jk0)))) ?_
          refine jlw_c (P := fun w10 => Ev l G (jrm d_Model_step 0 0) y_Model_step (some (.int z.1), jR0, z.2) 0 0 0 0 101 [some (.ref 93), some (.int x1), some (.int q3.1), some (.int (240 + (12 * x1)))] [] jR0 w10) h fun w10 h => ?_
          obtain ⟨hg11, h⟩ := jgd h
          refine ev_seg (o := 10) (nL := 4) (q := 116) (xs := [(.aload_n 0, 1, 0, 0, .null), (.getfield 7, 3, 10, 0, .ref 20), (.iload_n 3, 1, 3, 0, .null), (.bipush 8, 2, 0, 0, .int 8), (.iadd, 1, 0, 0, .null), (.aload_n 0, 1, 0, 0, .null), (.getfield 7, 3, 10, 0, .ref 20), (.iconst 0, 1, 0, 0, .int 0), (.iaload, 1, 0, 0, .null), (.iastore, 1, 0, 0, .null)]) (L' := [some (.ref 93), some (.int x1), some (.int q3.1), some (.int (240 + (12 * x1)))]) (st' := []) (w' := ((jup w10.1 94 (Int32.toNatClampNeg ((240 + (12 * x1)) + 8)) (w10.1 94 (Int32.toNatClampNeg 0))), w10.2)) (g := [jin ((240 + (12 * x1)) + 8) 21000, jin 0 21000]) (K := [(94, 20), (94, 20), (94, 20), (93, 10), (94, 20), (93, 10)]) (by decide +kernel) rfl rfl rfl hg11 (jk1 kz_94 (jk1 kz_94 (jk1 kz_94 (jk1 kz_93 (jk1 kz_94 (jk1 kz_93 jk0)))))) ?_
          refine jlw_c (P := fun w12 => Ev l G (jrm d_Model_step 0 0) y_Model_step (some (.int z.1), jR0, z.2) 0 0 0 0 116 [some (.ref 93), some (.int x1), some (.int q3.1), some (.int (240 + (12 * x1)))] [] jR0 w12) h fun w12 h => ?_
          obtain ⟨hg13, h⟩ := jgd h
          refine ev_seg (o := 10) (nL := 4) (q := 133) (xs := [(.aload_n 0, 1, 0, 0, .null), (.getfield 7, 3, 10, 0, .ref 20), (.iload_n 3, 1, 3, 0, .null), (.bipush 6, 2, 0, 0, .int 6), (.iadd, 1, 0, 0, .null), (.iaload, 1, 0, 0, .null), (.aload_n 0, 1, 0, 0, .null), (.aload_n 0, 1, 0, 0, .null), (.getfield 7, 3, 10, 0, .ref 20), (.iconst 0, 1, 0, 0, .int 0), (.iaload, 1, 0, 0, .null), (.iconst 3, 1, 0, 0, .int 3)]) (L' := [some (.ref 93), some (.int x1), some (.int q3.1), some (.int (240 + (12 * x1)))]) (st' := [.int 3, .int (w12.1 94 (Int32.toNatClampNeg 0)), .ref 93, .int (w12.1 94 (Int32.toNatClampNeg ((240 + (12 * x1)) + 6)))]) (w' := w12) (g := [jin 0 21000, jin ((240 + (12 * x1)) + 6) 21000]) (K := [(94, 20), (94, 20), (93, 10), (94, 20), (94, 20), (93, 10)]) (by decide +kernel) rfl rfl rfl hg13 (jk1 kz_94 (jk1 kz_94 (jk1 kz_93 (jk1 kz_94 (jk1 kz_94 (jk1 kz_93 jk0)))))) ?_
          obtain ⟨q14, hq14, h⟩ := jbe h
          refine ev_callV (ci := 10) (a := 93) (y2 := y_Model_saysOf) (o := 10) (idx := 81) (d2 := d_Model_saysOf) (n := 2) (mc2 := 0) (ms2 := 0) (As := [.int (w12.1 94 (Int32.toNatClampNeg 0)), .int 3]) (st := [.int (w12.1 94 (Int32.toNatClampNeg ((240 + (12 * x1)) + 6)))]) (res2 := (some (.int q14.1), jR0, q14.2)) (by decide +kernel) rfl lk_10_81 mo_Model_saysOf mv_Model_saysOf ⟨Nat.le_of_ble_eq_true rfl, Nat.le_of_ble_eq_true rfl⟩ rfl rfl kz_93 (by decide) rfl (Nat.le_of_ble_eq_true rfl) ⟨Nat.le_refl _, Nat.le_refl _⟩ hG (e_Model_saysOf hG hq14) ?_
          refine ev_icmp_lt (off := 18) (tgt := 154) (by decide +kernel) (by decide) (fun c19 => ?_) (fun c19 => ?_)
          · replace h := jpos c19 h
            obtain ⟨hg15, h⟩ := jgd h
            refine ev_seg (o := 10) (nL := 4) (q := 163) (xs := [(.aload_n 0, 1, 0, 0, .null), (.getfield 7, 3, 10, 0, .ref 20), (.iload_n 3, 1, 3, 0, .null), (.bipush 6, 2, 0, 0, .int 6), (.iadd, 1, 0, 0, .null), (.iaload, 1, 0, 0, .null)]) (L' := [some (.ref 93), some (.int x1), some (.int q3.1), some (.int (240 + (12 * x1)))]) (st' := [.int (q14.2.1 94 (Int32.toNatClampNeg ((240 + (12 * x1)) + 6)))]) (w' := q14.2) (g := [jin ((240 + (12 * x1)) + 6) 21000]) (K := [(94, 20), (94, 20), (93, 10)]) (by decide +kernel) rfl rfl rfl hg15 (jk1 kz_94 (jk1 kz_94 (jk1 kz_93 jk0))) ?_
            cases h
            exact ev_iret (by decide +kernel) rfl rfl rfl rfl
          · replace h := jneg c19 h
            obtain ⟨hg16, h⟩ := jgd h
            refine ev_seg (o := 10) (nL := 4) (q := 154) (xs := [(.aload_n 0, 1, 0, 0, .null), (.getfield 7, 3, 10, 0, .ref 20), (.iload_n 3, 1, 3, 0, .null), (.bipush 7, 2, 0, 0, .int 7), (.iadd, 1, 0, 0, .null), (.aload_n 0, 1, 0, 0, .null), (.getfield 7, 3, 10, 0, .ref 20), (.iconst 0, 1, 0, 0, .int 0), (.iaload, 1, 0, 0, .null), (.iastore, 1, 0, 0, .null)]) (L' := [some (.ref 93), some (.int x1), some (.int q3.1), some (.int (240 + (12 * x1)))]) (st' := []) (w' := ((jup q14.2.1 94 (Int32.toNatClampNeg ((240 + (12 * x1)) + 7)) (q14.2.1 94 (Int32.toNatClampNeg 0))), q14.2.2)) (g := [jin ((240 + (12 * x1)) + 7) 21000, jin 0 21000]) (K := [(94, 20), (94, 20), (94, 20), (93, 10), (94, 20), (93, 10)]) (by decide +kernel) rfl rfl rfl hg16 (jk1 kz_94 (jk1 kz_94 (jk1 kz_94 (jk1 kz_93 (jk1 kz_94 (jk1 kz_93 jk0)))))) ?_
            refine jlw_c (P := fun w17 => Ev l G (jrm d_Model_step 0 0) y_Model_step (some (.int z.1), jR0, z.2) 0 0 0 0 154 [some (.ref 93), some (.int x1), some (.int q3.1), some (.int (240 + (12 * x1)))] [] jR0 w17) h fun w17 h => ?_
            obtain ⟨hg18, h⟩ := jgd h
            refine ev_seg (o := 10) (nL := 4) (q := 163) (xs := [(.aload_n 0, 1, 0, 0, .null), (.getfield 7, 3, 10, 0, .ref 20), (.iload_n 3, 1, 3, 0, .null), (.bipush 6, 2, 0, 0, .int 6), (.iadd, 1, 0, 0, .null), (.iaload, 1, 0, 0, .null)]) (L' := [some (.ref 93), some (.int x1), some (.int q3.1), some (.int (240 + (12 * x1)))]) (st' := [.int (w17.1 94 (Int32.toNatClampNeg ((240 + (12 * x1)) + 6)))]) (w' := w17) (g := [jin ((240 + (12 * x1)) + 6) 21000]) (K := [(94, 20), (94, 20), (93, 10)]) (by decide +kernel) rfl rfl rfl hg18 (jk1 kz_94 (jk1 kz_94 (jk1 kz_93 jk0))) ?_
            cases h
            exact ev_iret (by decide +kernel) rfl rfl rfl rfl
        · replace h := jpos c20 h
          refine ev_seg (o := 10) (nL := 4) (q := 55) (xs := [(.iconst (-1), 1, 0, 0, .int (-1))]) (L' := [some (.ref 93), some (.int x1), some (.int q3.1), none]) (st' := [.int (-1)]) (w' := q5.2) (g := []) (K := []) (by decide +kernel) rfl rfl rfl rfl jk0 ?_
          cases h
          exact ev_iret (by decide +kernel) rfl rfl rfl rfl
  · replace h := jpos c23 h
    refine ev_seg (o := 10) (nL := 4) (q := 9) (xs := [(.iconst (-1), 1, 0, 0, .int (-1))]) (L' := [some (.ref 93), some (.int x1), none, none]) (st' := [.int (-1)]) (w' := q1.2) (g := []) (K := []) (by decide +kernel) rfl rfl rfl rfl jk0 ?_
    cases h
    exact ev_iret (by decide +kernel) rfl rfl rfl rfl
def f_Model_isBroken_j44 (k3 : Int32 → Int32 → Int32 → Int32 → jW → Option (Int32 × jW)) (x1 : Int32) (x2 : Int32) (x3 : Int32) (x4 : Int32) (w : jW) : Option (Int32 × jW) :=
  Option.bind (f_Model_moveAt x4 3 w) fun q3 =>
  if q3.1 = x1 then
    Option.bind (f_Model_moveAt x4 4 q3.2) fun q4 =>
    Option.bind (f_Model_isIn q4.1 (x2 + 1) x3 q4.2) fun q5 =>
    if q5.1 = 0 then
      k3 x1 x2 x3 (x4 + 1) q5.2
    else
      some (1, q5.2)
  else
    k3 x1 x2 x3 (x4 + 1) q3.2
set_option maxRecDepth 20000 in
theorem t_Model_isBroken_j44 {l : Launch} {G : jG} (hG : jX G) {k3 : Int32 → Int32 → Int32 → Int32 → jW → Option (Int32 × jW)} (hk3 : ∀ (x1 : Int32) (x2 : Int32) (x3 : Int32) (x4 : Int32) (w : jW) (z : (Int32 × jW)), k3 x1 x2 x3 x4 w = some z → Ev l G (jrm d_Model_isBroken 0 0) y_Model_isBroken (some (.int z.1), jR0, z.2) 0 0 0 0 3 [some (.ref 93), some (.int x1), some (.int x2), some (.int x3), some (.int x4)] [] jR0 w) {x1 : Int32} {x2 : Int32} {x3 : Int32} {x4 : Int32} {w : jW} {z : (Int32 × jW)} (h : f_Model_isBroken_j44 k3 x1 x2 x3 x4 w = some z) : Ev l G (jrm d_Model_isBroken 0 0) y_Model_isBroken (some (.int z.1), jR0, z.2) 0 0 0 0 44 [some (.ref 93), some (.int x1), some (.int x2), some (.int x3), some (.int x4)] [] jR0 w := by
  rw [f_Model_isBroken_j44] at h
  refine ev_seg (o := 10) (nL := 5) (q := 48) (xs := [(.aload_n 0, 1, 0, 0, .null), (.iload 4, 2, 4, 0, .null), (.iconst 3, 1, 0, 0, .int 3)]) (L' := [some (.ref 93), some (.int x1), some (.int x2), some (.int x3), some (.int x4)]) (st' := [.int 3, .int x4, .ref 93]) (w' := w) (g := []) (K := []) (by decide +kernel) rfl rfl rfl rfl jk0 ?_
  obtain ⟨q3, hq3, h⟩ := jbe h
  refine ev_callV (ci := 10) (a := 93) (y2 := y_Model_moveAt) (o := 10) (idx := 69) (d2 := d_Model_moveAt) (n := 2) (mc2 := 0) (ms2 := 0) (As := [.int x4, .int 3]) (st := []) (res2 := (some (.int q3.1), jR0, q3.2)) (by decide +kernel) rfl lk_10_69 mo_Model_moveAt mv_Model_moveAt ⟨Nat.le_of_ble_eq_true rfl, Nat.le_of_ble_eq_true rfl⟩ rfl rfl kz_93 (by decide) rfl (Nat.le_of_ble_eq_true rfl) ⟨Nat.le_refl _, Nat.le_refl _⟩ hG (e_Model_moveAt hG hq3) ?_
  refine ev_seg (o := 10) (nL := 5) (q := 52) (xs := [(.iload_n 1, 1, 1, 0, .null)]) (L' := [some (.ref 93), some (.int x1), some (.int x2), some (.int x3), some (.int x4)]) (st' := [.int x1, .int q3.1]) (w' := q3.2) (g := []) (K := []) (by decide +kernel) rfl rfl rfl rfl jk0 ?_
  refine ev_icmp_ne (off := 22) (tgt := 74) (by decide +kernel) (by decide) (fun c7 => ?_) (fun c7 => ?_)
  · replace h := jneg c7 h
    refine ev_seg (o := 10) (nL := 5) (q := 3) (xs := [(.iinc 4 1, 3, 4, 0, .int 1), (.goto (-74), 3, 0, 0, .null)]) (L' := [some (.ref 93), some (.int x1), some (.int x2), some (.int x3), some (.int (x4 + 1))]) (st' := []) (w' := q3.2) (g := []) (K := []) (by decide +kernel) rfl rfl rfl rfl jk0 ?_
    refine ev_mask [true, true, true, true, true] ?_
    exact hk3 _ _ _ _ _ _ h
  · replace h := jpos c7 h
    refine ev_seg (o := 10) (nL := 5) (q := 59) (xs := [(.aload_n 0, 1, 0, 0, .null), (.iload 4, 2, 4, 0, .null), (.iconst 4, 1, 0, 0, .int 4)]) (L' := [some (.ref 93), some (.int x1), some (.int x2), some (.int x3), some (.int x4)]) (st' := [.int 4, .int x4, .ref 93]) (w' := q3.2) (g := []) (K := []) (by decide +kernel) rfl rfl rfl rfl jk0 ?_
    obtain ⟨q4, hq4, h⟩ := jbe h
    refine ev_callV (ci := 10) (a := 93) (y2 := y_Model_moveAt) (o := 10) (idx := 69) (d2 := d_Model_moveAt) (n := 2) (mc2 := 0) (ms2 := 0) (As := [.int x4, .int 4]) (st := []) (res2 := (some (.int q4.1), jR0, q4.2)) (by decide +kernel) rfl lk_10_69 mo_Model_moveAt mv_Model_moveAt ⟨Nat.le_of_ble_eq_true rfl, Nat.le_of_ble_eq_true rfl⟩ rfl rfl kz_93 (by decide) rfl (Nat.le_of_ble_eq_true rfl) ⟨Nat.le_refl _, Nat.le_refl _⟩ hG (e_Model_moveAt hG hq4) ?_
    refine ev_seg (o := 10) (nL := 5) (q := 66) (xs := [(.iload_n 2, 1, 2, 0, .null), (.iconst 1, 1, 0, 0, .int 1), (.iadd, 1, 0, 0, .null), (.iload_n 3, 1, 3, 0, .null)]) (L' := [some (.ref 93), some (.int x1), some (.int x2), some (.int x3), some (.int x4)]) (st' := [.int x3, .int (x2 + 1), .int q4.1]) (w' := q4.2) (g := []) (K := []) (by decide +kernel) rfl rfl rfl rfl jk0 ?_
    obtain ⟨q5, hq5, h⟩ := jbe h
    refine ev_callS (y2 := y_Model_isIn) (o := 10) (idx := 46) (d2 := d_Model_isIn) (n := 3) (mc2 := 0) (ms2 := 0) (As := [.int q4.1, .int (x2 + 1), .int x3]) (st := []) (res2 := (some (.int q5.1), jR0, q5.2)) (by decide +kernel) rfl lk_10_46 mo_Model_isIn ms_Model_isIn ⟨Nat.le_of_ble_eq_true rfl, Nat.le_of_ble_eq_true rfl⟩ rfl rfl (Nat.le_of_ble_eq_true rfl) ⟨Nat.le_refl _, Nat.le_refl _⟩ hG (e_Model_isIn hG hq5) ?_
    refine ev_if_eq (off := 5) (tgt := 74) (by decide +kernel) (by decide) (fun c6 => ?_) (fun c6 => ?_)
    · replace h := jpos c6 h
      refine ev_seg (o := 10) (nL := 5) (q := 3) (xs := [(.iinc 4 1, 3, 4, 0, .int 1), (.goto (-74), 3, 0, 0, .null)]) (L' := [some (.ref 93), some (.int x1), some (.int x2), some (.int x3), some (.int (x4 + 1))]) (st' := []) (w' := q5.2) (g := []) (K := []) (by decide +kernel) rfl rfl rfl rfl jk0 ?_
      refine ev_mask [true, true, true, true, true] ?_
      exact hk3 _ _ _ _ _ _ h
    · replace h := jneg c6 h
      refine ev_seg (o := 10) (nL := 5) (q := 73) (xs := [(.iconst 1, 1, 0, 0, .int 1)]) (L' := [some (.ref 93), some (.int x1), some (.int x2), some (.int x3), some (.int x4)]) (st' := [.int 1]) (w' := q5.2) (g := []) (K := []) (by decide +kernel) rfl rfl rfl rfl jk0 ?_
      cases h
      exact ev_zret (by decide +kernel) rfl rfl rfl rfl rfl
def f_Model_isBroken_h3 : Nat → Int32 → Int32 → Int32 → Int32 → jW → Option (Int32 × jW)
  | 0, _, _, _, _, _ => none
  | n + 1, x1, x2, x3, x4, w =>
  if jal [jin 4 21000] = true then
  if x4 < (w.1 94 (Int32.toNatClampNeg 4)) then
    Option.bind (f_Model_moveAt x4 2 w) fun q2 =>
    if q2.1 = x1 then
      Option.bind (f_Model_moveAt x4 1 q2.2) fun q8 =>
      Option.bind (f_Model_isIn q8.1 (x2 + 1) x3 q8.2) fun q9 =>
      if q9.1 = 0 then
        f_Model_isBroken_j44 (f_Model_isBroken_h3 n) x1 x2 x3 x4 q9.2
      else
        some (1, q9.2)
    else
      f_Model_isBroken_j44 (f_Model_isBroken_h3 n) x1 x2 x3 x4 q2.2
  else
    some (0, w)
  else none
set_option maxRecDepth 20000 in
theorem t_Model_isBroken_h3 {l : Launch} {G : jG} (hG : jX G) : ∀ (n : Nat) (x1 : Int32) (x2 : Int32) (x3 : Int32) (x4 : Int32) (w : jW) (z : (Int32 × jW)), f_Model_isBroken_h3 n x1 x2 x3 x4 w = some z → Ev l G (jrm d_Model_isBroken 0 0) y_Model_isBroken (some (.int z.1), jR0, z.2) 0 0 0 0 3 [some (.ref 93), some (.int x1), some (.int x2), some (.int x3), some (.int x4)] [] jR0 w := by
  intro n
  induction n with
  | zero => intro x1 x2 x3 x4 w z h; simp only [f_Model_isBroken_h3] at h; cases h
  | succ n ih =>
    intro x1 x2 x3 x4 w z h
    rw [f_Model_isBroken_h3] at h
    obtain ⟨hg1, h⟩ := jgd h
    refine ev_seg (o := 10) (nL := 5) (q := 11) (xs := [(.iload 4, 2, 4, 0, .null), (.aload_n 0, 1, 0, 0, .null), (.getfield 7, 3, 10, 0, .ref 20), (.iconst 4, 1, 0, 0, .int 4), (.iaload, 1, 0, 0, .null)]) (L' := [some (.ref 93), some (.int x1), some (.int x2), some (.int x3), some (.int x4)]) (st' := [.int (w.1 94 (Int32.toNatClampNeg 4)), .int x4]) (w' := w) (g := [jin 4 21000]) (K := [(94, 20), (94, 20), (93, 10)]) (by decide +kernel) rfl rfl rfl hg1 (jk1 kz_94 (jk1 kz_94 (jk1 kz_93 jk0))) ?_
    refine ev_icmp_ge (off := 69) (tgt := 80) (by decide +kernel) (by decide) (fun c12 => ?_) (fun c12 => ?_)
    · replace h := jneg c12 h
      refine ev_seg (o := 10) (nL := 5) (q := 81) (xs := [(.iconst 0, 1, 0, 0, .int 0)]) (L' := [some (.ref 93), some (.int x1), some (.int x2), some (.int x3), some (.int x4)]) (st' := [.int 0]) (w' := w) (g := []) (K := []) (by decide +kernel) rfl rfl rfl rfl jk0 ?_
      cases h
      exact ev_zret (by decide +kernel) rfl rfl rfl rfl rfl
    · replace h := jpos c12 h
      refine ev_seg (o := 10) (nL := 5) (q := 18) (xs := [(.aload_n 0, 1, 0, 0, .null), (.iload 4, 2, 4, 0, .null), (.iconst 2, 1, 0, 0, .int 2)]) (L' := [some (.ref 93), some (.int x1), some (.int x2), some (.int x3), some (.int x4)]) (st' := [.int 2, .int x4, .ref 93]) (w' := w) (g := []) (K := []) (by decide +kernel) rfl rfl rfl rfl jk0 ?_
      obtain ⟨q2, hq2, h⟩ := jbe h
      refine ev_callV (ci := 10) (a := 93) (y2 := y_Model_moveAt) (o := 10) (idx := 69) (d2 := d_Model_moveAt) (n := 2) (mc2 := 0) (ms2 := 0) (As := [.int x4, .int 2]) (st := []) (res2 := (some (.int q2.1), jR0, q2.2)) (by decide +kernel) rfl lk_10_69 mo_Model_moveAt mv_Model_moveAt ⟨Nat.le_of_ble_eq_true rfl, Nat.le_of_ble_eq_true rfl⟩ rfl rfl kz_93 (by decide) rfl (Nat.le_of_ble_eq_true rfl) ⟨Nat.le_refl _, Nat.le_refl _⟩ hG (e_Model_moveAt hG hq2) ?_
      refine ev_seg (o := 10) (nL := 5) (q := 22) (xs := [(.iload_n 1, 1, 1, 0, .null)]) (L' := [some (.ref 93), some (.int x1), some (.int x2), some (.int x3), some (.int x4)]) (st' := [.int x1, .int q2.1]) (w' := q2.2) (g := []) (K := []) (by decide +kernel) rfl rfl rfl rfl jk0 ?_
      refine ev_icmp_ne (off := 22) (tgt := 44) (by decide +kernel) (by decide) (fun c11 => ?_) (fun c11 => ?_)
      · replace h := jneg c11 h
        refine ev_mask [true, true, true, true, true] ?_
        exact t_Model_isBroken_j44 hG ih h
      · replace h := jpos c11 h
        refine ev_seg (o := 10) (nL := 5) (q := 29) (xs := [(.aload_n 0, 1, 0, 0, .null), (.iload 4, 2, 4, 0, .null), (.iconst 1, 1, 0, 0, .int 1)]) (L' := [some (.ref 93), some (.int x1), some (.int x2), some (.int x3), some (.int x4)]) (st' := [.int 1, .int x4, .ref 93]) (w' := q2.2) (g := []) (K := []) (by decide +kernel) rfl rfl rfl rfl jk0 ?_
        obtain ⟨q8, hq8, h⟩ := jbe h
        refine ev_callV (ci := 10) (a := 93) (y2 := y_Model_moveAt) (o := 10) (idx := 69) (d2 := d_Model_moveAt) (n := 2) (mc2 := 0) (ms2 := 0) (As := [.int x4, .int 1]) (st := []) (res2 := (some (.int q8.1), jR0, q8.2)) (by decide +kernel) rfl lk_10_69 mo_Model_moveAt mv_Model_moveAt ⟨Nat.le_of_ble_eq_true rfl, Nat.le_of_ble_eq_true rfl⟩ rfl rfl kz_93 (by decide) rfl (Nat.le_of_ble_eq_true rfl) ⟨Nat.le_refl _, Nat.le_refl _⟩ hG (e_Model_moveAt hG hq8) ?_
        refine ev_seg (o := 10) (nL := 5) (q := 36) (xs := [(.iload_n 2, 1, 2, 0, .null), (.iconst 1, 1, 0, 0, .int 1), (.iadd, 1, 0, 0, .null), (.iload_n 3, 1, 3, 0, .null)]) (L' := [some (.ref 93), some (.int x1), some (.int x2), some (.int x3), some (.int x4)]) (st' := [.int x3, .int (x2 + 1), .int q8.1]) (w' := q8.2) (g := []) (K := []) (by decide +kernel) rfl rfl rfl rfl jk0 ?_
        obtain ⟨q9, hq9, h⟩ := jbe h
        refine ev_callS (y2 := y_Model_isIn) (o := 10) (idx := 46) (d2 := d_Model_isIn) (n := 3) (mc2 := 0) (ms2 := 0) (As := [.int q8.1, .int (x2 + 1), .int x3]) (st := []) (res2 := (some (.int q9.1), jR0, q9.2)) (by decide +kernel) rfl lk_10_46 mo_Model_isIn ms_Model_isIn ⟨Nat.le_of_ble_eq_true rfl, Nat.le_of_ble_eq_true rfl⟩ rfl rfl (Nat.le_of_ble_eq_true rfl) ⟨Nat.le_refl _, Nat.le_refl _⟩ hG (e_Model_isIn hG hq9) ?_
        refine ev_if_eq (off := 5) (tgt := 44) (by decide +kernel) (by decide) (fun c10 => ?_) (fun c10 => ?_)
        · replace h := jpos c10 h
          refine ev_mask [true, true, true, true, true] ?_
          exact t_Model_isBroken_j44 hG ih h
        · replace h := jneg c10 h
          refine ev_seg (o := 10) (nL := 5) (q := 43) (xs := [(.iconst 1, 1, 0, 0, .int 1)]) (L' := [some (.ref 93), some (.int x1), some (.int x2), some (.int x3), some (.int x4)]) (st' := [.int 1]) (w' := q9.2) (g := []) (K := []) (by decide +kernel) rfl rfl rfl rfl jk0 ?_
          cases h
          exact ev_zret (by decide +kernel) rfl rfl rfl rfl rfl
def f_Model_isBroken (x1 : Int32) (x2 : Int32) (x3 : Int32) (w : jW) : Option (Int32 × jW) :=
  f_Model_isBroken_h3 jfu x1 x2 x3 0 w
set_option maxRecDepth 20000 in
theorem e_Model_isBroken {l : Launch} {G : jG} (hG : jX G) {x1 : Int32} {x2 : Int32} {x3 : Int32} {w : jW} {z : (Int32 × jW)} (h : f_Model_isBroken x1 x2 x3 w = some z) : Ct l G y_Model_isBroken d_Model_isBroken 0 0 [.ref 93, .int x1, .int x2, .int x3] jR0 w (some (.int z.1), jR0, z.2) := by
  rw [f_Model_isBroken] at h
  refine Ct.of (L := [some (.ref 93), some (.int x1), some (.int x2), some (.int x3), none]) (by decide) (Nat.le_of_ble_eq_true rfl) rfl ?_
  refine ev_seg (o := 10) (nL := 5) (q := 3) (xs := [(.iconst 0, 1, 0, 0, .int 0), (.istore 4, 2, 4, 0, .null)]) (L' := [some (.ref 93), some (.int x1), some (.int x2), some (.int x3), some (.int 0)]) (st' := []) (w' := w) (g := []) (K := []) (by decide +kernel) rfl rfl rfl rfl jk0 ?_
  refine ev_mask [true, true, true, true, true] ?_
  exact t_Model_isBroken_h3 hG jfu _ _ _ _ _ _ h
def f_Model_sealOf_h4 : Nat → Int32 → Int32 → Int32 → jW → Option (Int32 × jW)
  | 0, _, _, _, _ => none
  | n + 1, x1, x2, x3, w =>
  if jal [jin 5 21000] = true then
  if x3 < (w.1 94 (Int32.toNatClampNeg 5)) then
    if jal [jin (1520 + (4 * x3)) 21000] = true then
    if (w.1 94 (Int32.toNatClampNeg (1520 + (4 * x3)))) = x1 then
      (f_Model_sealOf_h4 n) x1 x3 (x3 + 1) w
    else
      (f_Model_sealOf_h4 n) x1 x2 (x3 + 1) w
    else none
  else
    some (x2, w)
  else none
set_option maxRecDepth 20000 in
theorem t_Model_sealOf_h4 {l : Launch} {G : jG} (hG : jX G) : ∀ (n : Nat) (x1 : Int32) (x2 : Int32) (x3 : Int32) (w : jW) (z : (Int32 × jW)), f_Model_sealOf_h4 n x1 x2 x3 w = some z → Ev l G (jrm d_Model_sealOf 0 0) y_Model_sealOf (some (.int z.1), jR0, z.2) 0 0 0 0 4 [some (.ref 93), some (.int x1), some (.int x2), some (.int x3)] [] jR0 w := by
  intro n
  induction n with
  | zero => intro x1 x2 x3 w z h; simp only [f_Model_sealOf_h4] at h; cases h
  | succ n ih =>
    intro x1 x2 x3 w z h
    rw [f_Model_sealOf_h4] at h
    obtain ⟨hg1, h⟩ := jgd h
    refine ev_seg (o := 10) (nL := 4) (q := 11) (xs := [(.iload_n 3, 1, 3, 0, .null), (.aload_n 0, 1, 0, 0, .null), (.getfield 7, 3, 10, 0, .ref 20), (.iconst 5, 1, 0, 0, .int 5), (.iaload, 1, 0, 0, .null)]) (L' := [some (.ref 93), some (.int x1), some (.int x2), some (.int x3)]) (st' := [.int (w.1 94 (Int32.toNatClampNeg 5)), .int x3]) (w' := w) (g := [jin 5 21000]) (K := [(94, 20), (94, 20), (93, 10)]) (by decide +kernel) rfl rfl rfl hg1 (jk1 kz_94 (jk1 kz_94 (jk1 kz_93 jk0))) ?_
    refine ev_icmp_ge (off := 27) (tgt := 38) (by decide +kernel) (by decide) (fun c4 => ?_) (fun c4 => ?_)
    · replace h := jneg c4 h
      refine ev_seg (o := 10) (nL := 4) (q := 39) (xs := [(.iload_n 2, 1, 2, 0, .null)]) (L' := [some (.ref 93), some (.int x1), some (.int x2), some (.int x3)]) (st' := [.int x2]) (w' := w) (g := []) (K := []) (by decide +kernel) rfl rfl rfl rfl jk0 ?_
      cases h
      exact ev_iret (by decide +kernel) rfl rfl rfl rfl
    · replace h := jpos c4 h
      obtain ⟨hg2, h⟩ := jgd h
      refine ev_seg (o := 10) (nL := 4) (q := 27) (xs := [(.aload_n 0, 1, 0, 0, .null), (.getfield 7, 3, 10, 0, .ref 20), (.sipush 1520, 3, 0, 0, .int 1520), (.iconst 4, 1, 0, 0, .int 4), (.iload_n 3, 1, 3, 0, .null), (.imul, 1, 0, 0, .null), (.iadd, 1, 0, 0, .null), (.iaload, 1, 0, 0, .null), (.iload_n 1, 1, 1, 0, .null)]) (L' := [some (.ref 93), some (.int x1), some (.int x2), some (.int x3)]) (st' := [.int x1, .int (w.1 94 (Int32.toNatClampNeg (1520 + (4 * x3))))]) (w' := w) (g := [jin (1520 + (4 * x3)) 21000]) (K := [(94, 20), (94, 20), (93, 10)]) (by decide +kernel) rfl rfl rfl hg2 (jk1 kz_94 (jk1 kz_94 (jk1 kz_93 jk0))) ?_
      refine ev_icmp_ne (off := 5) (tgt := 32) (by decide +kernel) (by decide) (fun c3 => ?_) (fun c3 => ?_)
      · replace h := jneg c3 h
        refine ev_seg (o := 10) (nL := 4) (q := 4) (xs := [(.iinc 3 1, 3, 3, 0, .int 1), (.goto (-31), 3, 0, 0, .null)]) (L' := [some (.ref 93), some (.int x1), some (.int x2), some (.int (x3 + 1))]) (st' := []) (w' := w) (g := []) (K := []) (by decide +kernel) rfl rfl rfl rfl jk0 ?_
        refine ev_mask [true, true, true, true] ?_
        exact ih _ _ _ _ _ h
      · replace h := jpos c3 h
        refine ev_seg (o := 10) (nL := 4) (q := 4) (xs := [(.iload_n 3, 1, 3, 0, .null), (.istore_n 2, 1, 2, 0, .null), (.iinc 3 1, 3, 3, 0, .int 1), (.goto (-31), 3, 0, 0, .null)]) (L' := [some (.ref 93), some (.int x1), some (.int x3), some (.int (x3 + 1))]) (st' := []) (w' := w) (g := []) (K := []) (by decide +kernel) rfl rfl rfl rfl jk0 ?_
        refine ev_mask [true, true, true, true] ?_
        exact ih _ _ _ _ _ h
def f_Model_sealOf (x1 : Int32) (w : jW) : Option (Int32 × jW) :=
  f_Model_sealOf_h4 jfu x1 (-1) 0 w
set_option maxRecDepth 20000 in
theorem e_Model_sealOf {l : Launch} {G : jG} (hG : jX G) {x1 : Int32} {w : jW} {z : (Int32 × jW)} (h : f_Model_sealOf x1 w = some z) : Ct l G y_Model_sealOf d_Model_sealOf 0 0 [.ref 93, .int x1] jR0 w (some (.int z.1), jR0, z.2) := by
  rw [f_Model_sealOf] at h
  refine Ct.of (L := [some (.ref 93), some (.int x1), none, none]) (by decide) (Nat.le_of_ble_eq_true rfl) rfl ?_
  refine ev_seg (o := 10) (nL := 4) (q := 4) (xs := [(.iconst (-1), 1, 0, 0, .int (-1)), (.istore_n 2, 1, 2, 0, .null), (.iconst 0, 1, 0, 0, .int 0), (.istore_n 3, 1, 3, 0, .null)]) (L' := [some (.ref 93), some (.int x1), some (.int (-1)), some (.int 0)]) (st' := []) (w' := w) (g := []) (K := []) (by decide +kernel) rfl rfl rfl rfl jk0 ?_
  refine ev_mask [true, true, true, true] ?_
  exact t_Model_sealOf_h4 hG jfu _ _ _ _ _ h
def f_Model_isWhole (x1 : Int32) (x2 : Int32) (w : jW) : Option (Int32 × jW) :=
  if jal [jin ((1520 + (4 * x1)) + 1) 21000, jin (1520 + (4 * x1)) 21000] = true then
  Option.bind (f_Model_isBroken (w.1 94 (Int32.toNatClampNeg (1520 + (4 * x1)))) (w.1 94 (Int32.toNatClampNeg ((1520 + (4 * x1)) + 1))) x2 w) fun q2 =>
  if q2.1 = 0 then
    some (1, q2.2)
  else
    some (0, q2.2)
  else none
set_option maxRecDepth 20000 in
theorem e_Model_isWhole {l : Launch} {G : jG} (hG : jX G) {x1 : Int32} {x2 : Int32} {w : jW} {z : (Int32 × jW)} (h : f_Model_isWhole x1 x2 w = some z) : Ct l G y_Model_isWhole d_Model_isWhole 0 0 [.ref 93, .int x1, .int x2] jR0 w (some (.int z.1), jR0, z.2) := by
  rw [f_Model_isWhole] at h
  refine Ct.of (L := [some (.ref 93), some (.int x1), some (.int x2)]) (by decide) (Nat.le_of_ble_eq_true rfl) rfl ?_
  obtain ⟨hg1, h⟩ := jgd h
  refine ev_seg (o := 10) (nL := 3) (q := 28) (xs := [(.aload_n 0, 1, 0, 0, .null), (.aload_n 0, 1, 0, 0, .null), (.getfield 7, 3, 10, 0, .ref 20), (.sipush 1520, 3, 0, 0, .int 1520), (.iconst 4, 1, 0, 0, .int 4), (.iload_n 1, 1, 1, 0, .null), (.imul, 1, 0, 0, .null), (.iadd, 1, 0, 0, .null), (.iaload, 1, 0, 0, .null), (.aload_n 0, 1, 0, 0, .null), (.getfield 7, 3, 10, 0, .ref 20), (.sipush 1520, 3, 0, 0, .int 1520), (.iconst 4, 1, 0, 0, .int 4), (.iload_n 1, 1, 1, 0, .null), (.imul, 1, 0, 0, .null), (.iadd, 1, 0, 0, .null), (.iconst 1, 1, 0, 0, .int 1), (.iadd, 1, 0, 0, .null), (.iaload, 1, 0, 0, .null), (.iload_n 2, 1, 2, 0, .null)]) (L' := [some (.ref 93), some (.int x1), some (.int x2)]) (st' := [.int x2, .int (w.1 94 (Int32.toNatClampNeg ((1520 + (4 * x1)) + 1))), .int (w.1 94 (Int32.toNatClampNeg (1520 + (4 * x1)))), .ref 93]) (w' := w) (g := [jin ((1520 + (4 * x1)) + 1) 21000, jin (1520 + (4 * x1)) 21000]) (K := [(94, 20), (94, 20), (93, 10), (94, 20), (94, 20), (93, 10)]) (by decide +kernel) rfl rfl rfl hg1 (jk1 kz_94 (jk1 kz_94 (jk1 kz_93 (jk1 kz_94 (jk1 kz_94 (jk1 kz_93 jk0)))))) ?_
  obtain ⟨q2, hq2, h⟩ := jbe h
  refine ev_callV (ci := 10) (a := 93) (y2 := y_Model_isBroken) (o := 10) (idx := 84) (d2 := d_Model_isBroken) (n := 3) (mc2 := 0) (ms2 := 0) (As := [.int (w.1 94 (Int32.toNatClampNeg (1520 + (4 * x1)))), .int (w.1 94 (Int32.toNatClampNeg ((1520 + (4 * x1)) + 1))), .int x2]) (st := []) (res2 := (some (.int q2.1), jR0, q2.2)) (by decide +kernel) rfl lk_10_84 mo_Model_isBroken mv_Model_isBroken ⟨Nat.le_of_ble_eq_true rfl, Nat.le_of_ble_eq_true rfl⟩ rfl rfl kz_93 (by decide) rfl (Nat.le_of_ble_eq_true rfl) ⟨Nat.le_refl _, Nat.le_refl _⟩ hG (e_Model_isBroken hG hq2) ?_
  refine ev_if_ne (off := 7) (tgt := 38) (by decide +kernel) (by decide) (fun c3 => ?_) (fun c3 => ?_)
  · replace h := jneg c3 h
    refine ev_seg (o := 10) (nL := 3) (q := 39) (xs := [(.iconst 0, 1, 0, 0, .int 0)]) (L' := [some (.ref 93), some (.int x1), some (.int x2)]) (st' := [.int 0]) (w' := q2.2) (g := []) (K := []) (by decide +kernel) rfl rfl rfl rfl jk0 ?_
    cases h
    exact ev_zret (by decide +kernel) rfl rfl rfl rfl rfl
  · replace h := jpos c3 h
    refine ev_seg (o := 10) (nL := 3) (q := 39) (xs := [(.iconst 1, 1, 0, 0, .int 1), (.goto 4, 3, 0, 0, .null)]) (L' := [some (.ref 93), some (.int x1), some (.int x2)]) (st' := [.int 1]) (w' := q2.2) (g := []) (K := []) (by decide +kernel) rfl rfl rfl rfl jk0 ?_
    cases h
    exact ev_zret (by decide +kernel) rfl rfl rfl rfl rfl
def f_Model_isSealed (x1 : Int32) (w : jW) : Option (Int32 × jW) :=
  Option.bind (f_Model_sealOf x1 w) fun q1 =>
  if q1.1 < 0 then
    some (0, q1.2)
  else
    Option.bind (f_Model_sealOf x1 q1.2) fun q2 =>
    if jal [jin 0 21000] = true then
    Option.bind (f_Model_isWhole q2.1 (q2.2.1 94 (Int32.toNatClampNeg 0)) q2.2) fun q4 =>
    if q4.1 = 0 then
      some (0, q4.2)
    else
      some (1, q4.2)
    else none
set_option maxRecDepth 20000 in
theorem e_Model_isSealed {l : Launch} {G : jG} (hG : jX G) {x1 : Int32} {w : jW} {z : (Int32 × jW)} (h : f_Model_isSealed x1 w = some z) : Ct l G y_Model_isSealed d_Model_isSealed 0 0 [.ref 93, .int x1] jR0 w (some (.int z.1), jR0, z.2) := by
  rw [f_Model_isSealed] at h
  refine Ct.of (L := [some (.ref 93), some (.int x1)]) (by decide) (Nat.le_of_ble_eq_true rfl) rfl ?_
  refine ev_seg (o := 10) (nL := 2) (q := 2) (xs := [(.aload_n 0, 1, 0, 0, .null), (.iload_n 1, 1, 1, 0, .null)]) (L' := [some (.ref 93), some (.int x1)]) (st' := [.int x1, .ref 93]) (w' := w) (g := []) (K := []) (by decide +kernel) rfl rfl rfl rfl jk0 ?_
  obtain ⟨q1, hq1, h⟩ := jbe h
  refine ev_callV (ci := 10) (a := 93) (y2 := y_Model_sealOf) (o := 10) (idx := 87) (d2 := d_Model_sealOf) (n := 1) (mc2 := 0) (ms2 := 0) (As := [.int x1]) (st := []) (res2 := (some (.int q1.1), jR0, q1.2)) (by decide +kernel) rfl lk_10_87 mo_Model_sealOf mv_Model_sealOf ⟨Nat.le_of_ble_eq_true rfl, Nat.le_of_ble_eq_true rfl⟩ rfl rfl kz_93 (by decide) rfl (Nat.le_of_ble_eq_true rfl) ⟨Nat.le_refl _, Nat.le_refl _⟩ hG (e_Model_sealOf hG hq1) ?_
  refine ev_if_lt (off := 25) (tgt := 30) (by decide +kernel) (by decide) (fun c6 => ?_) (fun c6 => ?_)
  · replace h := jpos c6 h
    refine ev_seg (o := 10) (nL := 2) (q := 31) (xs := [(.iconst 0, 1, 0, 0, .int 0)]) (L' := [some (.ref 93), some (.int x1)]) (st' := [.int 0]) (w' := q1.2) (g := []) (K := []) (by decide +kernel) rfl rfl rfl rfl jk0 ?_
    cases h
    exact ev_zret (by decide +kernel) rfl rfl rfl rfl rfl
  · replace h := jneg c6 h
    refine ev_seg (o := 10) (nL := 2) (q := 11) (xs := [(.aload_n 0, 1, 0, 0, .null), (.aload_n 0, 1, 0, 0, .null), (.iload_n 1, 1, 1, 0, .null)]) (L' := [some (.ref 93), some (.int x1)]) (st' := [.int x1, .ref 93, .ref 93]) (w' := q1.2) (g := []) (K := []) (by decide +kernel) rfl rfl rfl rfl jk0 ?_
    obtain ⟨q2, hq2, h⟩ := jbe h
    refine ev_callV (ci := 10) (a := 93) (y2 := y_Model_sealOf) (o := 10) (idx := 87) (d2 := d_Model_sealOf) (n := 1) (mc2 := 0) (ms2 := 0) (As := [.int x1]) (st := [.ref 93]) (res2 := (some (.int q2.1), jR0, q2.2)) (by decide +kernel) rfl lk_10_87 mo_Model_sealOf mv_Model_sealOf ⟨Nat.le_of_ble_eq_true rfl, Nat.le_of_ble_eq_true rfl⟩ rfl rfl kz_93 (by decide) rfl (Nat.le_of_ble_eq_true rfl) ⟨Nat.le_refl _, Nat.le_refl _⟩ hG (e_Model_sealOf hG hq2) ?_
    obtain ⟨hg3, h⟩ := jgd h
    refine ev_seg (o := 10) (nL := 2) (q := 20) (xs := [(.aload_n 0, 1, 0, 0, .null), (.getfield 7, 3, 10, 0, .ref 20), (.iconst 0, 1, 0, 0, .int 0), (.iaload, 1, 0, 0, .null)]) (L' := [some (.ref 93), some (.int x1)]) (st' := [.int (q2.2.1 94 (Int32.toNatClampNeg 0)), .int q2.1, .ref 93]) (w' := q2.2) (g := [jin 0 21000]) (K := [(94, 20), (94, 20), (93, 10)]) (by decide +kernel) rfl rfl rfl hg3 (jk1 kz_94 (jk1 kz_94 (jk1 kz_93 jk0))) ?_
    obtain ⟨q4, hq4, h⟩ := jbe h
    refine ev_callV (ci := 10) (a := 93) (y2 := y_Model_isWhole) (o := 10) (idx := 91) (d2 := d_Model_isWhole) (n := 2) (mc2 := 0) (ms2 := 0) (As := [.int q2.1, .int (q2.2.1 94 (Int32.toNatClampNeg 0))]) (st := []) (res2 := (some (.int q4.1), jR0, q4.2)) (by decide +kernel) rfl lk_10_91 mo_Model_isWhole mv_Model_isWhole ⟨Nat.le_of_ble_eq_true rfl, Nat.le_of_ble_eq_true rfl⟩ rfl rfl kz_93 (by decide) rfl (Nat.le_of_ble_eq_true rfl) ⟨Nat.le_refl _, Nat.le_refl _⟩ hG (e_Model_isWhole hG hq4) ?_
    refine ev_if_eq (off := 7) (tgt := 30) (by decide +kernel) (by decide) (fun c5 => ?_) (fun c5 => ?_)
    · replace h := jpos c5 h
      refine ev_seg (o := 10) (nL := 2) (q := 31) (xs := [(.iconst 0, 1, 0, 0, .int 0)]) (L' := [some (.ref 93), some (.int x1)]) (st' := [.int 0]) (w' := q4.2) (g := []) (K := []) (by decide +kernel) rfl rfl rfl rfl jk0 ?_
      cases h
      exact ev_zret (by decide +kernel) rfl rfl rfl rfl rfl
    · replace h := jneg c5 h
      refine ev_seg (o := 10) (nL := 2) (q := 31) (xs := [(.iconst 1, 1, 0, 0, .int 1), (.goto 4, 3, 0, 0, .null)]) (L' := [some (.ref 93), some (.int x1)]) (st' := [.int 1]) (w' := q4.2) (g := []) (K := []) (by decide +kernel) rfl rfl rfl rfl jk0 ?_
      cases h
      exact ev_zret (by decide +kernel) rfl rfl rfl rfl rfl
def f_Model_seal (x1 : Int32) (w : jW) : Option (Int32 × jW) :=
  Option.bind (f_Model_isSite x1 w) fun q1 =>
  if q1.1 = 0 then
    some ((-1), q1.2)
  else
    Option.bind (f_Model_isSealed x1 q1.2) fun q2 =>
    if q2.1 = 0 then
      if jal [jin 5 21000] = true then
      if (q2.2.1 94 (Int32.toNatClampNeg 5)) = 40 then
        some ((-1), q2.2)
      else
        if jal [jin (1520 + (4 * (q2.2.1 94 (Int32.toNatClampNeg 5)))) 21000, jin 5 21000] = true then
        jlw ((jup q2.2.1 94 (Int32.toNatClampNeg (1520 + (4 * (q2.2.1 94 (Int32.toNatClampNeg 5))))) x1), q2.2.2) fun w5 =>
        if jal [jin ((1520 + (4 * (w5.1 94 (Int32.toNatClampNeg 5)))) + 1) 21000, jin 0 21000, jin 5 21000] = true then
        jlw ((jup w5.1 94 (Int32.toNatClampNeg ((1520 + (4 * (w5.1 94 (Int32.toNatClampNeg 5)))) + 1)) (w5.1 94 (Int32.toNatClampNeg 0))), w5.2) fun w7 =>
        if jal [jin 5 21000, jin 5 21000] = true then
        jlw ((jup w7.1 94 (Int32.toNatClampNeg 5) ((w7.1 94 (Int32.toNatClampNeg 5)) + 1)), w7.2) fun w9 =>
        if jal [jin 5 21000] = true then
        some (((w9.1 94 (Int32.toNatClampNeg 5)) - 1), w9)
        else none else none else none else none
      else none
    else
      some ((-1), q2.2)
set_option maxRecDepth 20000 in
theorem e_Model_seal {l : Launch} {G : jG} (hG : jX G) {x1 : Int32} {w : jW} {z : (Int32 × jW)} (h : f_Model_seal x1 w = some z) : Ct l G y_Model_seal d_Model_seal 0 0 [.ref 93, .int x1] jR0 w (some (.int z.1), jR0, z.2) := by
  rw [f_Model_seal] at h
  refine Ct.of (L := [some (.ref 93), some (.int x1)]) (by decide) (Nat.le_of_ble_eq_true rfl) rfl ?_
  refine ev_seg (o := 10) (nL := 2) (q := 2) (xs := [(.aload_n 0, 1, 0, 0, .null), (.iload_n 1, 1, 1, 0, .null)]) (L' := [some (.ref 93), some (.int x1)]) (st' := [.int x1, .ref 93]) (w' := w) (g := []) (K := []) (by decide +kernel) rfl rfl rfl rfl jk0 ?_
  obtain ⟨q1, hq1, h⟩ := jbe h
  refine ev_callV (ci := 10) (a := 93) (y2 := y_Model_isSite) (o := 10) (idx := 50) (d2 := d_Model_isSite) (n := 1) (mc2 := 0) (ms2 := 0) (As := [.int x1]) (st := []) (res2 := (some (.int q1.1), jR0, q1.2)) (by decide +kernel) rfl lk_10_50 mo_Model_isSite mv_Model_isSite ⟨Nat.le_of_ble_eq_true rfl, Nat.le_of_ble_eq_true rfl⟩ rfl rfl kz_93 (by decide) rfl (Nat.le_of_ble_eq_true rfl) ⟨Nat.le_refl _, Nat.le_refl _⟩ hG (e_Model_isSite hG hq1) ?_
  refine ev_if_eq (off := 22) (tgt := 27) (by decide +kernel) (by decide) (fun c13 => ?_) (fun c13 => ?_)
  · replace h := jpos c13 h
    refine ev_seg (o := 10) (nL := 2) (q := 28) (xs := [(.iconst (-1), 1, 0, 0, .int (-1))]) (L' := [some (.ref 93), some (.int x1)]) (st' := [.int (-1)]) (w' := q1.2) (g := []) (K := []) (by decide +kernel) rfl rfl rfl rfl jk0 ?_
    cases h
    exact ev_iret (by decide +kernel) rfl rfl rfl rfl
  · replace h := jneg c13 h
    refine ev_seg (o := 10) (nL := 2) (q := 10) (xs := [(.aload_n 0, 1, 0, 0, .null), (.iload_n 1, 1, 1, 0, .null)]) (L' := [some (.ref 93), some (.int x1)]) (st' := [.int x1, .ref 93]) (w' := q1.2) (g := []) (K := []) (by decide +kernel) rfl rfl rfl rfl jk0 ?_
    obtain ⟨q2, hq2, h⟩ := jbe h
    refine ev_callV (ci := 10) (a := 93) (y2 := y_Model_isSealed) (o := 10) (idx := 95) (d2 := d_Model_isSealed) (n := 1) (mc2 := 0) (ms2 := 0) (As := [.int x1]) (st := []) (res2 := (some (.int q2.1), jR0, q2.2)) (by decide +kernel) rfl lk_10_95 mo_Model_isSealed mv_Model_isSealed ⟨Nat.le_of_ble_eq_true rfl, Nat.le_of_ble_eq_true rfl⟩ rfl rfl kz_93 (by decide) rfl (Nat.le_of_ble_eq_true rfl) ⟨Nat.le_refl _, Nat.le_refl _⟩ hG (e_Model_isSealed hG hq2) ?_
    refine ev_if_ne (off := 14) (tgt := 27) (by decide +kernel) (by decide) (fun c12 => ?_) (fun c12 => ?_)
    · replace h := jneg c12 h
      refine ev_seg (o := 10) (nL := 2) (q := 28) (xs := [(.iconst (-1), 1, 0, 0, .int (-1))]) (L' := [some (.ref 93), some (.int x1)]) (st' := [.int (-1)]) (w' := q2.2) (g := []) (K := []) (by decide +kernel) rfl rfl rfl rfl jk0 ?_
      cases h
      exact ev_iret (by decide +kernel) rfl rfl rfl rfl
    · replace h := jpos c12 h
      obtain ⟨hg3, h⟩ := jgd h
      refine ev_seg (o := 10) (nL := 2) (q := 24) (xs := [(.aload_n 0, 1, 0, 0, .null), (.getfield 7, 3, 10, 0, .ref 20), (.iconst 5, 1, 0, 0, .int 5), (.iaload, 1, 0, 0, .null), (.bipush 40, 2, 0, 0, .int 40)]) (L' := [some (.ref 93), some (.int x1)]) (st' := [.int 40, .int (q2.2.1 94 (Int32.toNatClampNeg 5))]) (w' := q2.2) (g := [jin 5 21000]) (K := [(94, 20), (94, 20), (93, 10)]) (by decide +kernel) rfl rfl rfl hg3 (jk1 kz_94 (jk1 kz_94 (jk1 kz_93 jk0))) ?_
      refine ev_icmp_ne (off := 5) (tgt := 29) (by decide +kernel) (by decide) (fun c11 => ?_) (fun c11 => ?_)
      · replace h := jneg c11 h
        obtain ⟨hg4, h⟩ := jgd h
        refine ev_seg (o := 10) (nL := 2) (q := 47) (xs := [(.aload_n 0, 1, 0, 0, .null), (.getfield 7, 3, 10, 0, .ref 20), (.sipush 1520, 3, 0, 0, .int 1520), (.iconst 4, 1, 0, 0, .int 4), (.aload_n 0, 1, 0, 0, .null), (.getfield 7, 3, 10, 0, .ref 20), (.iconst 5, 1, 0, 0, .int 5), (.iaload, 1, 0, 0, .null), (.imul, 1, 0, 0, .null), (.iadd, 1, 0, 0, .null), (.iload_n 1, 1, 1, 0, .null), (.iastore, 1, 0, 0, .null)]) (L' := [some (.ref 93), some (.int x1)]) (st' := []) (w' := ((jup q2.2.1 94 (Int32.toNatClampNeg (1520 + (4 * (q2.2.1 94 (Int32.toNatClampNeg 5))))) x1), q2.2.2)) (g := [jin (1520 + (4 * (q2.2.1 94 (Int32.toNatClampNeg 5)))) 21000, jin 5 21000]) (K := [(94, 20), (94, 20), (94, 20), (93, 10), (94, 20), (93, 10)]) (by decide +kernel) rfl rfl rfl hg4 (jk1 kz_94 (jk1 kz_94 (jk1 kz_94 (jk1 kz_93 (jk1 kz_94 (jk1 kz_93 jk0)))))) ?_
        refine jlw_c (P := fun w5 => Ev l G (jrm d_Model_seal 0 0) y_Model_seal (some (.int z.1), jR0, z.2) 0 0 0 0 47 [some (.ref 93), some (.int x1)] [] jR0 w5) h fun w5 h => ?_
        obtain ⟨hg6, h⟩ := jgd h
        refine ev_seg (o := 10) (nL := 2) (q := 72) (xs := [(.aload_n 0, 1, 0, 0, .null), (.getfield 7, 3, 10, 0, .ref 20), (.sipush 1520, 3, 0, 0, .int 1520), (.iconst 4, 1, 0, 0, .int 4), (.aload_n 0, 1, 0, 0, .null), (.getfield 7, 3, 10, 0, .ref 20), (.iconst 5, 1, 0, 0, .int 5), (.iaload, 1, 0, 0, .null), (.imul, 1, 0, 0, .null), (.iadd, 1, 0, 0, .null), (.iconst 1, 1, 0, 0, .int 1), (.iadd, 1, 0, 0, .null), (.aload_n 0, 1, 0, 0, .null), (.getfield 7, 3, 10, 0, .ref 20), (.iconst 0, 1, 0, 0, .int 0), (.iaload, 1, 0, 0, .null), (.iastore, 1, 0, 0, .null)]) (L' := [some (.ref 93), some (.int x1)]) (st' := []) (w' := ((jup w5.1 94 (Int32.toNatClampNeg ((1520 + (4 * (w5.1 94 (Int32.toNatClampNeg 5)))) + 1)) (w5.1 94 (Int32.toNatClampNeg 0))), w5.2)) (g := [jin ((1520 + (4 * (w5.1 94 (Int32.toNatClampNeg 5)))) + 1) 21000, jin 0 21000, jin 5 21000]) (K := [(94, 20), (94, 20), (94, 20), (93, 10), (94, 20), (94, 20), (93, 10), (94, 20), (93, 10)]) (by decide +kernel) rfl rfl rfl hg6 (jk1 kz_94 (jk1 kz_94 (jk1 kz_94 (jk1 kz_93 (jk1 kz_94 (jk1 kz_94 (jk1 kz_93 (jk1 kz_94 (jk1 kz_93 jk0))))))))) ?_
        refine jlw_c (P := fun w7 => Ev l G (jrm d_Model_seal 0 0) y_Model_seal (some (.int z.1), jR0, z.2) 0 0 0 0 72 [some (.ref 93), some (.int x1)] [] jR0 w7) h fun w7 h => ?_
        obtain ⟨hg8, h⟩ := jgd h
        refine ev_seg (o := 10) (nL := 2) (q := 82) (xs := [(.aload_n 0, 1, 0, 0, .null), (.getfield 7, 3, 10, 0, .ref 20), (.iconst 5, 1, 0, 0, .int 5), (.dup2, 1, 0, 0, .null), (.iaload, 1, 0, 0, .null), (.iconst 1, 1, 0, 0, .int 1), (.iadd, 1, 0, 0, .null), (.iastore, 1, 0, 0, .null)]) (L' := [some (.ref 93), some (.int x1)]) (st' := []) (w' := ((jup w7.1 94 (Int32.toNatClampNeg 5) ((w7.1 94 (Int32.toNatClampNeg 5)) + 1)), w7.2)) (g := [jin 5 21000, jin 5 21000]) (K := [(94, 20), (94, 20), (94, 20), (93, 10)]) (by decide +kernel) rfl rfl rfl hg8 (jk1 kz_94 (jk1 kz_94 (jk1 kz_94 (jk1 kz_93 jk0)))) ?_
        refine jlw_c (P := fun w9 => Ev l G (jrm d_Model_seal 0 0) y_Model_seal (some (.int z.1), jR0, z.2) 0 0 0 0 82 [some (.ref 93), some (.int x1)] [] jR0 w9) h fun w9 h => ?_
        obtain ⟨hg10, h⟩ := jgd h
        refine ev_seg (o := 10) (nL := 2) (q := 90) (xs := [(.aload_n 0, 1, 0, 0, .null), (.getfield 7, 3, 10, 0, .ref 20), (.iconst 5, 1, 0, 0, .int 5), (.iaload, 1, 0, 0, .null), (.iconst 1, 1, 0, 0, .int 1), (.isub, 1, 0, 0, .null)]) (L' := [some (.ref 93), some (.int x1)]) (st' := [.int ((w9.1 94 (Int32.toNatClampNeg 5)) - 1)]) (w' := w9) (g := [jin 5 21000]) (K := [(94, 20), (94, 20), (93, 10)]) (by decide +kernel) rfl rfl rfl hg10 (jk1 kz_94 (jk1 kz_94 (jk1 kz_93 jk0))) ?_
        cases h
        exact ev_iret (by decide +kernel) rfl rfl rfl rfl
      · replace h := jpos c11 h
        refine ev_seg (o := 10) (nL := 2) (q := 28) (xs := [(.iconst (-1), 1, 0, 0, .int (-1))]) (L' := [some (.ref 93), some (.int x1)]) (st' := [.int (-1)]) (w' := q2.2) (g := []) (K := []) (by decide +kernel) rfl rfl rfl rfl jk0 ?_
        cases h
        exact ev_iret (by decide +kernel) rfl rfl rfl rfl
def f_Model_whole0 (x1 : Int32) (x2 : Int32) (w : jW) : Option (Int32 × jW) :=
  if jal [jin 5 21000] = true then
  Option.bind (f_Model_isIn x1 0 ((w.1 94 (Int32.toNatClampNeg 5)) - 1) w) fun q2 =>
  if q2.1 = 0 then
    some ((-1), q2.2)
  else
    if jal [jin ((1520 + (4 * x1)) + 1) 21000] = true then
    Option.bind (f_Model_isIn x2 (q2.2.1 94 (Int32.toNatClampNeg ((1520 + (4 * x1)) + 1))) 1999 q2.2) fun q4 =>
    if q4.1 = 0 then
      some ((-1), q4.2)
    else
      Option.bind (f_Model_isWhole x1 x2 q4.2) fun q5 =>
      if q5.1 = 0 then
        some (0, q5.2)
      else
        some (1, q5.2)
    else none
  else none
set_option maxRecDepth 20000 in
theorem e_Model_whole0 {l : Launch} {G : jG} (hG : jX G) {x1 : Int32} {x2 : Int32} {w : jW} {z : (Int32 × jW)} (h : f_Model_whole0 x1 x2 w = some z) : Ct l G y_Model_whole0 d_Model_whole0 0 0 [.ref 93, .int x1, .int x2] jR0 w (some (.int z.1), jR0, z.2) := by
  rw [f_Model_whole0] at h
  refine Ct.of (L := [some (.ref 93), some (.int x1), some (.int x2)]) (by decide) (Nat.le_of_ble_eq_true rfl) rfl ?_
  obtain ⟨hg1, h⟩ := jgd h
  refine ev_seg (o := 10) (nL := 3) (q := 10) (xs := [(.iload_n 1, 1, 1, 0, .null), (.iconst 0, 1, 0, 0, .int 0), (.aload_n 0, 1, 0, 0, .null), (.getfield 7, 3, 10, 0, .ref 20), (.iconst 5, 1, 0, 0, .int 5), (.iaload, 1, 0, 0, .null), (.iconst 1, 1, 0, 0, .int 1), (.isub, 1, 0, 0, .null)]) (L' := [some (.ref 93), some (.int x1), some (.int x2)]) (st' := [.int ((w.1 94 (Int32.toNatClampNeg 5)) - 1), .int 0, .int x1]) (w' := w) (g := [jin 5 21000]) (K := [(94, 20), (94, 20), (93, 10)]) (by decide +kernel) rfl rfl rfl hg1 (jk1 kz_94 (jk1 kz_94 (jk1 kz_93 jk0))) ?_
  obtain ⟨q2, hq2, h⟩ := jbe h
  refine ev_callS (y2 := y_Model_isIn) (o := 10) (idx := 46) (d2 := d_Model_isIn) (n := 3) (mc2 := 0) (ms2 := 0) (As := [.int x1, .int 0, .int ((w.1 94 (Int32.toNatClampNeg 5)) - 1)]) (st := []) (res2 := (some (.int q2.1), jR0, q2.2)) (by decide +kernel) rfl lk_10_46 mo_Model_isIn ms_Model_isIn ⟨Nat.le_of_ble_eq_true rfl, Nat.le_of_ble_eq_true rfl⟩ rfl rfl (Nat.le_of_ble_eq_true rfl) ⟨Nat.le_refl _, Nat.le_refl _⟩ hG (e_Model_isIn hG hq2) ?_
  refine ev_if_eq (off := 44) (tgt := 57) (by decide +kernel) (by decide) (fun c8 => ?_) (fun c8 => ?_)
  · replace h := jpos c8 h
    refine ev_seg (o := 10) (nL := 3) (q := 58) (xs := [(.iconst (-1), 1, 0, 0, .int (-1))]) (L' := [some (.ref 93), some (.int x1), some (.int x2)]) (st' := [.int (-1)]) (w' := q2.2) (g := []) (K := []) (by decide +kernel) rfl rfl rfl rfl jk0 ?_
    cases h
    exact ev_iret (by decide +kernel) rfl rfl rfl rfl
  · replace h := jneg c8 h
    obtain ⟨hg3, h⟩ := jgd h
    refine ev_seg (o := 10) (nL := 3) (q := 34) (xs := [(.iload_n 2, 1, 2, 0, .null), (.aload_n 0, 1, 0, 0, .null), (.getfield 7, 3, 10, 0, .ref 20), (.sipush 1520, 3, 0, 0, .int 1520), (.iconst 4, 1, 0, 0, .int 4), (.iload_n 1, 1, 1, 0, .null), (.imul, 1, 0, 0, .null), (.iadd, 1, 0, 0, .null), (.iconst 1, 1, 0, 0, .int 1), (.iadd, 1, 0, 0, .null), (.iaload, 1, 0, 0, .null), (.sipush 1999, 3, 0, 0, .int 1999)]) (L' := [some (.ref 93), some (.int x1), some (.int x2)]) (st' := [.int 1999, .int (q2.2.1 94 (Int32.toNatClampNeg ((1520 + (4 * x1)) + 1))), .int x2]) (w' := q2.2) (g := [jin ((1520 + (4 * x1)) + 1) 21000]) (K := [(94, 20), (94, 20), (93, 10)]) (by decide +kernel) rfl rfl rfl hg3 (jk1 kz_94 (jk1 kz_94 (jk1 kz_93 jk0))) ?_
    obtain ⟨q4, hq4, h⟩ := jbe h
    refine ev_callS (y2 := y_Model_isIn) (o := 10) (idx := 46) (d2 := d_Model_isIn) (n := 3) (mc2 := 0) (ms2 := 0) (As := [.int x2, .int (q2.2.1 94 (Int32.toNatClampNeg ((1520 + (4 * x1)) + 1))), .int 1999]) (st := []) (res2 := (some (.int q4.1), jR0, q4.2)) (by decide +kernel) rfl lk_10_46 mo_Model_isIn ms_Model_isIn ⟨Nat.le_of_ble_eq_true rfl, Nat.le_of_ble_eq_true rfl⟩ rfl rfl (Nat.le_of_ble_eq_true rfl) ⟨Nat.le_refl _, Nat.le_refl _⟩ hG (e_Model_isIn hG hq4) ?_
    refine ev_if_eq (off := 20) (tgt := 57) (by decide +kernel) (by decide) (fun c7 => ?_) (fun c7 => ?_)
    · replace h := jpos c7 h
      refine ev_seg (o := 10) (nL := 3) (q := 58) (xs := [(.iconst (-1), 1, 0, 0, .int (-1))]) (L' := [some (.ref 93), some (.int x1), some (.int x2)]) (st' := [.int (-1)]) (w' := q4.2) (g := []) (K := []) (by decide +kernel) rfl rfl rfl rfl jk0 ?_
      cases h
      exact ev_iret (by decide +kernel) rfl rfl rfl rfl
    · replace h := jneg c7 h
      refine ev_seg (o := 10) (nL := 3) (q := 43) (xs := [(.aload_n 0, 1, 0, 0, .null), (.iload_n 1, 1, 1, 0, .null), (.iload_n 2, 1, 2, 0, .null)]) (L' := [some (.ref 93), some (.int x1), some (.int x2)]) (st' := [.int x2, .int x1, .ref 93]) (w' := q4.2) (g := []) (K := []) (by decide +kernel) rfl rfl rfl rfl jk0 ?_
      obtain ⟨q5, hq5, h⟩ := jbe h
      refine ev_callV (ci := 10) (a := 93) (y2 := y_Model_isWhole) (o := 10) (idx := 91) (d2 := d_Model_isWhole) (n := 2) (mc2 := 0) (ms2 := 0) (As := [.int x1, .int x2]) (st := []) (res2 := (some (.int q5.1), jR0, q5.2)) (by decide +kernel) rfl lk_10_91 mo_Model_isWhole mv_Model_isWhole ⟨Nat.le_of_ble_eq_true rfl, Nat.le_of_ble_eq_true rfl⟩ rfl rfl kz_93 (by decide) rfl (Nat.le_of_ble_eq_true rfl) ⟨Nat.le_refl _, Nat.le_refl _⟩ hG (e_Model_isWhole hG hq5) ?_
      refine ev_if_eq (off := 7) (tgt := 53) (by decide +kernel) (by decide) (fun c6 => ?_) (fun c6 => ?_)
      · replace h := jpos c6 h
        refine ev_seg (o := 10) (nL := 3) (q := 58) (xs := [(.iconst 0, 1, 0, 0, .int 0), (.goto 4, 3, 0, 0, .null)]) (L' := [some (.ref 93), some (.int x1), some (.int x2)]) (st' := [.int 0]) (w' := q5.2) (g := []) (K := []) (by decide +kernel) rfl rfl rfl rfl jk0 ?_
        cases h
        exact ev_iret (by decide +kernel) rfl rfl rfl rfl
      · replace h := jneg c6 h
        refine ev_seg (o := 10) (nL := 3) (q := 58) (xs := [(.iconst 1, 1, 0, 0, .int 1), (.goto 8, 3, 0, 0, .null)]) (L' := [some (.ref 93), some (.int x1), some (.int x2)]) (st' := [.int 1]) (w' := q5.2) (g := []) (K := []) (by decide +kernel) rfl rfl rfl rfl jk0 ?_
        cases h
        exact ev_iret (by decide +kernel) rfl rfl rfl rfl
def f_Model_days (x1 : Int32) (w : jW) : Option (Int32 × jW) :=
  Option.bind (f_Model_isIn x1 1 400 w) fun q1 =>
  if q1.1 = 0 then
    some ((-1), q1.2)
  else
    if jal [jin 0 21000] = true then
    if ((q1.2.1 94 (Int32.toNatClampNeg 0)) + x1) ≤ 1999 then
      if jal [jin 0 21000, jin 0 21000] = true then
      jlw ((jup q1.2.1 94 (Int32.toNatClampNeg 0) ((q1.2.1 94 (Int32.toNatClampNeg 0)) + x1)), q1.2.2) fun w4 =>
      if jal [jin 0 21000] = true then
      some ((w4.1 94 (Int32.toNatClampNeg 0)), w4)
      else none else none
    else
      some ((-1), q1.2)
    else none
set_option maxRecDepth 20000 in
theorem e_Model_days {l : Launch} {G : jG} (hG : jX G) {x1 : Int32} {w : jW} {z : (Int32 × jW)} (h : f_Model_days x1 w = some z) : Ct l G y_Model_days d_Model_days 0 0 [.ref 93, .int x1] jR0 w (some (.int z.1), jR0, z.2) := by
  rw [f_Model_days] at h
  refine Ct.of (L := [some (.ref 93), some (.int x1)]) (by decide) (Nat.le_of_ble_eq_true rfl) rfl ?_
  refine ev_seg (o := 10) (nL := 2) (q := 5) (xs := [(.iload_n 1, 1, 1, 0, .null), (.iconst 1, 1, 0, 0, .int 1), (.sipush 400, 3, 0, 0, .int 400)]) (L' := [some (.ref 93), some (.int x1)]) (st' := [.int 400, .int 1, .int x1]) (w' := w) (g := []) (K := []) (by decide +kernel) rfl rfl rfl rfl jk0 ?_
  obtain ⟨q1, hq1, h⟩ := jbe h
  refine ev_callS (y2 := y_Model_isIn) (o := 10) (idx := 46) (d2 := d_Model_isIn) (n := 3) (mc2 := 0) (ms2 := 0) (As := [.int x1, .int 1, .int 400]) (st := []) (res2 := (some (.int q1.1), jR0, q1.2)) (by decide +kernel) rfl lk_10_46 mo_Model_isIn ms_Model_isIn ⟨Nat.le_of_ble_eq_true rfl, Nat.le_of_ble_eq_true rfl⟩ rfl rfl (Nat.le_of_ble_eq_true rfl) ⟨Nat.le_refl _, Nat.le_refl _⟩ hG (e_Model_isIn hG hq1) ?_
  refine ev_if_eq (off := 17) (tgt := 25) (by decide +kernel) (by decide) (fun c7 => ?_) (fun c7 => ?_)
  · replace h := jpos c7 h
    refine ev_seg (o := 10) (nL := 2) (q := 26) (xs := [(.iconst (-1), 1, 0, 0, .int (-1))]) (L' := [some (.ref 93), some (.int x1)]) (st' := [.int (-1)]) (w' := q1.2) (g := []) (K := []) (by decide +kernel) rfl rfl rfl rfl jk0 ?_
    cases h
    exact ev_iret (by decide +kernel) rfl rfl rfl rfl
  · replace h := jneg c7 h
    obtain ⟨hg2, h⟩ := jgd h
    refine ev_seg (o := 10) (nL := 2) (q := 22) (xs := [(.aload_n 0, 1, 0, 0, .null), (.getfield 7, 3, 10, 0, .ref 20), (.iconst 0, 1, 0, 0, .int 0), (.iaload, 1, 0, 0, .null), (.iload_n 1, 1, 1, 0, .null), (.iadd, 1, 0, 0, .null), (.sipush 1999, 3, 0, 0, .int 1999)]) (L' := [some (.ref 93), some (.int x1)]) (st' := [.int 1999, .int ((q1.2.1 94 (Int32.toNatClampNeg 0)) + x1)]) (w' := q1.2) (g := [jin 0 21000]) (K := [(94, 20), (94, 20), (93, 10)]) (by decide +kernel) rfl rfl rfl hg2 (jk1 kz_94 (jk1 kz_94 (jk1 kz_93 jk0))) ?_
    refine ev_icmp_le (off := 5) (tgt := 27) (by decide +kernel) (by decide) (fun c6 => ?_) (fun c6 => ?_)
    · replace h := jpos c6 h
      obtain ⟨hg3, h⟩ := jgd h
      refine ev_seg (o := 10) (nL := 2) (q := 37) (xs := [(.aload_n 0, 1, 0, 0, .null), (.getfield 7, 3, 10, 0, .ref 20), (.iconst 0, 1, 0, 0, .int 0), (.dup2, 1, 0, 0, .null), (.iaload, 1, 0, 0, .null), (.iload_n 1, 1, 1, 0, .null), (.iadd, 1, 0, 0, .null), (.iastore, 1, 0, 0, .null)]) (L' := [some (.ref 93), some (.int x1)]) (st' := []) (w' := ((jup q1.2.1 94 (Int32.toNatClampNeg 0) ((q1.2.1 94 (Int32.toNatClampNeg 0)) + x1)), q1.2.2)) (g := [jin 0 21000, jin 0 21000]) (K := [(94, 20), (94, 20), (94, 20), (93, 10)]) (by decide +kernel) rfl rfl rfl hg3 (jk1 kz_94 (jk1 kz_94 (jk1 kz_94 (jk1 kz_93 jk0)))) ?_
      refine jlw_c (P := fun w4 => Ev l G (jrm d_Model_days 0 0) y_Model_days (some (.int z.1), jR0, z.2) 0 0 0 0 37 [some (.ref 93), some (.int x1)] [] jR0 w4) h fun w4 h => ?_
      obtain ⟨hg5, h⟩ := jgd h
      refine ev_seg (o := 10) (nL := 2) (q := 43) (xs := [(.aload_n 0, 1, 0, 0, .null), (.getfield 7, 3, 10, 0, .ref 20), (.iconst 0, 1, 0, 0, .int 0), (.iaload, 1, 0, 0, .null)]) (L' := [some (.ref 93), some (.int x1)]) (st' := [.int (w4.1 94 (Int32.toNatClampNeg 0))]) (w' := w4) (g := [jin 0 21000]) (K := [(94, 20), (94, 20), (93, 10)]) (by decide +kernel) rfl rfl rfl hg5 (jk1 kz_94 (jk1 kz_94 (jk1 kz_93 jk0))) ?_
      cases h
      exact ev_iret (by decide +kernel) rfl rfl rfl rfl
    · replace h := jneg c6 h
      refine ev_seg (o := 10) (nL := 2) (q := 26) (xs := [(.iconst (-1), 1, 0, 0, .int (-1))]) (L' := [some (.ref 93), some (.int x1)]) (st' := [.int (-1)]) (w' := q1.2) (g := []) (K := []) (by decide +kernel) rfl rfl rfl rfl jk0 ?_
      cases h
      exact ev_iret (by decide +kernel) rfl rfl rfl rfl
def f_Model_thing_h15 : Nat → Int32 → Int32 → Int32 → Int32 → jW → Option (Int32 × jW)
  | 0, _, _, _, _, _ => none
  | n + 1, x1, x2, x3, x4, w =>
  if jal [jin 4 21000] = true then
  if x4 < (w.1 94 (Int32.toNatClampNeg 4)) then
    Option.bind (f_Model_moveAt x4 0 w) fun q9 =>
    if q9.1 = x1 then
      (f_Model_thing_h15 n) x1 x2 (x3 + 1) (x4 + 1) q9.2
    else
      (f_Model_thing_h15 n) x1 x2 (x3 + 0) (x4 + 1) q9.2
  else
    Option.bind (f_Model_isIn x2 0 4 w) fun q3 =>
    if q3.1 = 0 then
      if x2 = 5 then
        Option.bind (f_Model_thingAt x1 6 q3.2) fun q5 =>
        some (q5.1, q5.2)
      else
        if x2 = 6 then
          some (x3, q3.2)
        else
          some ((-1), q3.2)
    else
      Option.bind (f_Model_thingAt x1 x2 q3.2) fun q7 =>
      some (q7.1, q7.2)
  else none
set_option maxRecDepth 20000 in
theorem t_Model_thing_h15 {l : Launch} {G : jG} (hG : jX G) : ∀ (n : Nat) (x1 : Int32) (x2 : Int32) (x3 : Int32) (x4 : Int32) (w : jW) (z : (Int32 × jW)), f_Model_thing_h15 n x1 x2 x3 x4 w = some z → Ev l G (jrm d_Model_thing 0 0) y_Model_thing (some (.int z.1), jR0, z.2) 0 0 0 0 15 [some (.ref 93), some (.int x1), some (.int x2), some (.int x3), some (.int x4)] [] jR0 w := by
  intro n
  induction n with
  | zero => intro x1 x2 x3 x4 w z h; simp only [f_Model_thing_h15] at h; cases h
  | succ n ih =>
    intro x1 x2 x3 x4 w z h
    rw [f_Model_thing_h15] at h
    obtain ⟨hg2, h⟩ := jgd h
    refine ev_seg (o := 10) (nL := 5) (q := 23) (xs := [(.iload 4, 2, 4, 0, .null), (.aload_n 0, 1, 0, 0, .null), (.getfield 7, 3, 10, 0, .ref 20), (.iconst 4, 1, 0, 0, .int 4), (.iaload, 1, 0, 0, .null)]) (L' := [some (.ref 93), some (.int x1), some (.int x2), some (.int x3), some (.int x4)]) (st' := [.int (w.1 94 (Int32.toNatClampNeg 4)), .int x4]) (w' := w) (g := [jin 4 21000]) (K := [(94, 20), (94, 20), (93, 10)]) (by decide +kernel) rfl rfl rfl hg2 (jk1 kz_94 (jk1 kz_94 (jk1 kz_93 jk0))) ?_
    refine ev_icmp_ge (off := 28) (tgt := 51) (by decide +kernel) (by decide) (fun c11 => ?_) (fun c11 => ?_)
    · replace h := jneg c11 h
      refine ev_seg (o := 10) (nL := 5) (q := 54) (xs := [(.iload_n 2, 1, 2, 0, .null), (.iconst 0, 1, 0, 0, .int 0), (.iconst 4, 1, 0, 0, .int 4)]) (L' := [some (.ref 93), some (.int x1), some (.int x2), some (.int x3), some (.int x4)]) (st' := [.int 4, .int 0, .int x2]) (w' := w) (g := []) (K := []) (by decide +kernel) rfl rfl rfl rfl jk0 ?_
      obtain ⟨q3, hq3, h⟩ := jbe h
      refine ev_callS (y2 := y_Model_isIn) (o := 10) (idx := 46) (d2 := d_Model_isIn) (n := 3) (mc2 := 0) (ms2 := 0) (As := [.int x2, .int 0, .int 4]) (st := []) (res2 := (some (.int q3.1), jR0, q3.2)) (by decide +kernel) rfl lk_10_46 mo_Model_isIn ms_Model_isIn ⟨Nat.le_of_ble_eq_true rfl, Nat.le_of_ble_eq_true rfl⟩ rfl rfl (Nat.le_of_ble_eq_true rfl) ⟨Nat.le_refl _, Nat.le_refl _⟩ hG (e_Model_isIn hG hq3) ?_
      refine ev_if_eq (off := 12) (tgt := 69) (by decide +kernel) (by decide) (fun c8 => ?_) (fun c8 => ?_)
      · replace h := jpos c8 h
        refine ev_seg (o := 10) (nL := 5) (q := 71) (xs := [(.iload_n 2, 1, 2, 0, .null), (.iconst 5, 1, 0, 0, .int 5)]) (L' := [some (.ref 93), some (.int x1), some (.int x2), some (.int x3), some (.int x4)]) (st' := [.int 5, .int x2]) (w' := q3.2) (g := []) (K := []) (by decide +kernel) rfl rfl rfl rfl jk0 ?_
        refine ev_icmp_ne (off := 13) (tgt := 84) (by decide +kernel) (by decide) (fun c6 => ?_) (fun c6 => ?_)
        · replace h := jneg c6 h
          refine ev_seg (o := 10) (nL := 5) (q := 87) (xs := [(.iload_n 2, 1, 2, 0, .null), (.bipush 6, 2, 0, 0, .int 6)]) (L' := [some (.ref 93), some (.int x1), some (.int x2), some (.int x3), some (.int x4)]) (st' := [.int 6, .int x2]) (w' := q3.2) (g := []) (K := []) (by decide +kernel) rfl rfl rfl rfl jk0 ?_
          refine ev_icmp_ne (off := 7) (tgt := 94) (by decide +kernel) (by decide) (fun c4 => ?_) (fun c4 => ?_)
          · replace h := jneg c4 h
            refine ev_seg (o := 10) (nL := 5) (q := 95) (xs := [(.iconst (-1), 1, 0, 0, .int (-1))]) (L' := [some (.ref 93), some (.int x1), some (.int x2), some (.int x3), some (.int x4)]) (st' := [.int (-1)]) (w' := q3.2) (g := []) (K := []) (by decide +kernel) rfl rfl rfl rfl jk0 ?_
            cases h
            exact ev_iret (by decide +kernel) rfl rfl rfl rfl
          · replace h := jpos c4 h
            refine ev_seg (o := 10) (nL := 5) (q := 95) (xs := [(.iload_n 3, 1, 3, 0, .null), (.goto 4, 3, 0, 0, .null)]) (L' := [some (.ref 93), some (.int x1), some (.int x2), some (.int x3), some (.int x4)]) (st' := [.int x3]) (w' := q3.2) (g := []) (K := []) (by decide +kernel) rfl rfl rfl rfl jk0 ?_
            cases h
            exact ev_iret (by decide +kernel) rfl rfl rfl rfl
        · replace h := jpos c6 h
          refine ev_seg (o := 10) (nL := 5) (q := 78) (xs := [(.aload_n 0, 1, 0, 0, .null), (.iload_n 1, 1, 1, 0, .null), (.bipush 6, 2, 0, 0, .int 6)]) (L' := [some (.ref 93), some (.int x1), some (.int x2), some (.int x3), some (.int x4)]) (st' := [.int 6, .int x1, .ref 93]) (w' := q3.2) (g := []) (K := []) (by decide +kernel) rfl rfl rfl rfl jk0 ?_
          obtain ⟨q5, hq5, h⟩ := jbe h
          refine ev_callV (ci := 10) (a := 93) (y2 := y_Model_thingAt) (o := 10) (idx := 66) (d2 := d_Model_thingAt) (n := 2) (mc2 := 0) (ms2 := 0) (As := [.int x1, .int 6]) (st := []) (res2 := (some (.int q5.1), jR0, q5.2)) (by decide +kernel) rfl lk_10_66 mo_Model_thingAt mv_Model_thingAt ⟨Nat.le_of_ble_eq_true rfl, Nat.le_of_ble_eq_true rfl⟩ rfl rfl kz_93 (by decide) rfl (Nat.le_of_ble_eq_true rfl) ⟨Nat.le_refl _, Nat.le_refl _⟩ hG (e_Model_thingAt hG hq5) ?_
          refine ev_seg (o := 10) (nL := 5) (q := 95) (xs := [(.goto 14, 3, 0, 0, .null)]) (L' := [some (.ref 93), some (.int x1), some (.int x2), some (.int x3), some (.int x4)]) (st' := [.int q5.1]) (w' := q5.2) (g := []) (K := []) (by decide +kernel) rfl rfl rfl rfl jk0 ?_
          cases h
          exact ev_iret (by decide +kernel) rfl rfl rfl rfl
      · replace h := jneg c8 h
        refine ev_seg (o := 10) (nL := 5) (q := 63) (xs := [(.aload_n 0, 1, 0, 0, .null), (.iload_n 1, 1, 1, 0, .null), (.iload_n 2, 1, 2, 0, .null)]) (L' := [some (.ref 93), some (.int x1), some (.int x2), some (.int x3), some (.int x4)]) (st' := [.int x2, .int x1, .ref 93]) (w' := q3.2) (g := []) (K := []) (by decide +kernel) rfl rfl rfl rfl jk0 ?_
        obtain ⟨q7, hq7, h⟩ := jbe h
        refine ev_callV (ci := 10) (a := 93) (y2 := y_Model_thingAt) (o := 10) (idx := 66) (d2 := d_Model_thingAt) (n := 2) (mc2 := 0) (ms2 := 0) (As := [.int x1, .int x2]) (st := []) (res2 := (some (.int q7.1), jR0, q7.2)) (by decide +kernel) rfl lk_10_66 mo_Model_thingAt mv_Model_thingAt ⟨Nat.le_of_ble_eq_true rfl, Nat.le_of_ble_eq_true rfl⟩ rfl rfl kz_93 (by decide) rfl (Nat.le_of_ble_eq_true rfl) ⟨Nat.le_refl _, Nat.le_refl _⟩ hG (e_Model_thingAt hG hq7) ?_
        refine ev_seg (o := 10) (nL := 5) (q := 95) (xs := [(.goto 29, 3, 0, 0, .null)]) (L' := [some (.ref 93), some (.int x1), some (.int x2), some (.int x3), some (.int x4)]) (st' := [.int q7.1]) (w' := q7.2) (g := []) (K := []) (by decide +kernel) rfl rfl rfl rfl jk0 ?_
        cases h
        exact ev_iret (by decide +kernel) rfl rfl rfl rfl
    · replace h := jpos c11 h
      refine ev_seg (o := 10) (nL := 5) (q := 31) (xs := [(.iload_n 3, 1, 3, 0, .null), (.aload_n 0, 1, 0, 0, .null), (.iload 4, 2, 4, 0, .null), (.iconst 0, 1, 0, 0, .int 0)]) (L' := [some (.ref 93), some (.int x1), some (.int x2), some (.int x3), some (.int x4)]) (st' := [.int 0, .int x4, .ref 93, .int x3]) (w' := w) (g := []) (K := []) (by decide +kernel) rfl rfl rfl rfl jk0 ?_
      obtain ⟨q9, hq9, h⟩ := jbe h
      refine ev_callV (ci := 10) (a := 93) (y2 := y_Model_moveAt) (o := 10) (idx := 69) (d2 := d_Model_moveAt) (n := 2) (mc2 := 0) (ms2 := 0) (As := [.int x4, .int 0]) (st := [.int x3]) (res2 := (some (.int q9.1), jR0, q9.2)) (by decide +kernel) rfl lk_10_69 mo_Model_moveAt mv_Model_moveAt ⟨Nat.le_of_ble_eq_true rfl, Nat.le_of_ble_eq_true rfl⟩ rfl rfl kz_93 (by decide) rfl (Nat.le_of_ble_eq_true rfl) ⟨Nat.le_refl _, Nat.le_refl _⟩ hG (e_Model_moveAt hG hq9) ?_
      refine ev_seg (o := 10) (nL := 5) (q := 35) (xs := [(.iload_n 1, 1, 1, 0, .null)]) (L' := [some (.ref 93), some (.int x1), some (.int x2), some (.int x3), some (.int x4)]) (st' := [.int x1, .int q9.1, .int x3]) (w' := q9.2) (g := []) (K := []) (by decide +kernel) rfl rfl rfl rfl jk0 ?_
      refine ev_icmp_ne (off := 7) (tgt := 42) (by decide +kernel) (by decide) (fun c10 => ?_) (fun c10 => ?_)
      · replace h := jneg c10 h
        refine ev_seg (o := 10) (nL := 5) (q := 15) (xs := [(.iconst 0, 1, 0, 0, .int 0), (.iadd, 1, 0, 0, .null), (.istore_n 3, 1, 3, 0, .null), (.iinc 4 1, 3, 4, 0, .int 1), (.goto (-33), 3, 0, 0, .null)]) (L' := [some (.ref 93), some (.int x1), some (.int x2), some (.int (x3 + 0)), some (.int (x4 + 1))]) (st' := []) (w' := q9.2) (g := []) (K := []) (by decide +kernel) rfl rfl rfl rfl jk0 ?_
        refine ev_mask [true, true, true, true, true] ?_
        exact ih _ _ _ _ _ _ h
      · replace h := jpos c10 h
        refine ev_seg (o := 10) (nL := 5) (q := 15) (xs := [(.iconst 1, 1, 0, 0, .int 1), (.goto 4, 3, 0, 0, .null), (.iadd, 1, 0, 0, .null), (.istore_n 3, 1, 3, 0, .null), (.iinc 4 1, 3, 4, 0, .int 1), (.goto (-33), 3, 0, 0, .null)]) (L' := [some (.ref 93), some (.int x1), some (.int x2), some (.int (x3 + 1)), some (.int (x4 + 1))]) (st' := []) (w' := q9.2) (g := []) (K := []) (by decide +kernel) rfl rfl rfl rfl jk0 ?_
        refine ev_mask [true, true, true, true, true] ?_
        exact ih _ _ _ _ _ _ h
def f_Model_thing (x1 : Int32) (x2 : Int32) (w : jW) : Option (Int32 × jW) :=
  Option.bind (f_Model_isThing x1 w) fun q1 =>
  if q1.1 = 0 then
    some ((-1), q1.2)
  else
    f_Model_thing_h15 jfu x1 x2 0 0 q1.2
set_option maxRecDepth 20000 in
theorem e_Model_thing {l : Launch} {G : jG} (hG : jX G) {x1 : Int32} {x2 : Int32} {w : jW} {z : (Int32 × jW)} (h : f_Model_thing x1 x2 w = some z) : Ct l G y_Model_thing d_Model_thing 0 0 [.ref 93, .int x1, .int x2] jR0 w (some (.int z.1), jR0, z.2) := by
  rw [f_Model_thing] at h
  refine Ct.of (L := [some (.ref 93), some (.int x1), some (.int x2), none, none]) (by decide) (Nat.le_of_ble_eq_true rfl) rfl ?_
  refine ev_seg (o := 10) (nL := 5) (q := 2) (xs := [(.aload_n 0, 1, 0, 0, .null), (.iload_n 1, 1, 1, 0, .null)]) (L' := [some (.ref 93), some (.int x1), some (.int x2), none, none]) (st' := [.int x1, .ref 93]) (w' := w) (g := []) (K := []) (by decide +kernel) rfl rfl rfl rfl jk0 ?_
  obtain ⟨q1, hq1, h⟩ := jbe h
  refine ev_callV (ci := 10) (a := 93) (y2 := y_Model_isThing) (o := 10) (idx := 72) (d2 := d_Model_isThing) (n := 1) (mc2 := 0) (ms2 := 0) (As := [.int x1]) (st := []) (res2 := (some (.int q1.1), jR0, q1.2)) (by decide +kernel) rfl lk_10_72 mo_Model_isThing mv_Model_isThing ⟨Nat.le_of_ble_eq_true rfl, Nat.le_of_ble_eq_true rfl⟩ rfl rfl kz_93 (by decide) rfl (Nat.le_of_ble_eq_true rfl) ⟨Nat.le_refl _, Nat.le_refl _⟩ hG (e_Model_isThing hG hq1) ?_
  refine ev_if_ne (off := 5) (tgt := 10) (by decide +kernel) (by decide) (fun c12 => ?_) (fun c12 => ?_)
  · replace h := jneg c12 h
    refine ev_seg (o := 10) (nL := 5) (q := 15) (xs := [(.iconst 0, 1, 0, 0, .int 0), (.istore_n 3, 1, 3, 0, .null), (.iconst 0, 1, 0, 0, .int 0), (.istore 4, 2, 4, 0, .null)]) (L' := [some (.ref 93), some (.int x1), some (.int x2), some (.int 0), some (.int 0)]) (st' := []) (w' := q1.2) (g := []) (K := []) (by decide +kernel) rfl rfl rfl rfl jk0 ?_
    refine ev_mask [true, true, true, true, true] ?_
    exact t_Model_thing_h15 hG jfu _ _ _ _ _ _ h
  · replace h := jpos c12 h
    refine ev_seg (o := 10) (nL := 5) (q := 9) (xs := [(.iconst (-1), 1, 0, 0, .int (-1))]) (L' := [some (.ref 93), some (.int x1), some (.int x2), none, none]) (st' := [.int (-1)]) (w' := q1.2) (g := []) (K := []) (by decide +kernel) rfl rfl rfl rfl jk0 ?_
    cases h
    exact ev_iret (by decide +kernel) rfl rfl rfl rfl
def f_Model_four_h3 : Nat → Int32 → Int32 → jW → Option jW
  | 0, _, _, _ => none
  | n + 1, x1, x2, w =>
  if x2 < 0 then
    some w
  else
    if jal [jin (w.1 93 4) 300] = true then
    jlw ((jup w.1 97 (Int32.toNatClampNeg (w.1 93 4)) ((x1 >>> (x2 &&& 31)) &&& 255)), w.2) fun w2 =>
    jlw ((jup w2.1 93 4 ((w2.1 93 4) + 1)), w2.2) fun w3 =>
    (f_Model_four_h3 n) x1 (x2 + (-8)) w3
    else none
set_option maxRecDepth 20000 in
theorem t_Model_four_h3 {l : Launch} {G : jG} (hG : jX G) : ∀ (n : Nat) (x1 : Int32) (x2 : Int32) (w : jW) (z : jW), f_Model_four_h3 n x1 x2 w = some z → Ev l G (jrm d_Model_four 0 0) y_Model_four (none, jR0, z) 0 0 0 0 3 [some (.ref 93), some (.int x1), some (.int x2)] [] jR0 w := by
  intro n
  induction n with
  | zero => intro x1 x2 w z h; simp only [f_Model_four_h3] at h; cases h
  | succ n ih =>
    intro x1 x2 w z h
    rw [f_Model_four_h3] at h
    refine ev_seg (o := 10) (nL := 3) (q := 4) (xs := [(.iload_n 2, 1, 2, 0, .null)]) (L' := [some (.ref 93), some (.int x1), some (.int x2)]) (st' := [.int x2]) (w' := w) (g := []) (K := []) (by decide +kernel) rfl rfl rfl rfl jk0 ?_
    refine ev_if_lt (off := 35) (tgt := 39) (by decide +kernel) (by decide) (fun c4 => ?_) (fun c4 => ?_)
    · replace h := jpos c4 h
      cases h
      exact ev_vret (by decide +kernel) rfl rfl rfl rfl
    · replace h := jneg c4 h
      obtain ⟨hg1, h⟩ := jgd h
      refine ev_seg (o := 10) (nL := 3) (q := 23) (xs := [(.aload_n 0, 1, 0, 0, .null), (.getfield 19, 3, 10, 3, .ref 20), (.aload_n 0, 1, 0, 0, .null), (.getfield 98, 3, 10, 4, .int 0), (.iload_n 1, 1, 1, 0, .null), (.iload_n 2, 1, 2, 0, .null), (.ishr, 1, 0, 0, .null), (.sipush 255, 3, 0, 0, .int 255), (.iand, 1, 0, 0, .null), (.iastore, 1, 0, 0, .null)]) (L' := [some (.ref 93), some (.int x1), some (.int x2)]) (st' := []) (w' := ((jup w.1 97 (Int32.toNatClampNeg (w.1 93 4)) ((x1 >>> (x2 &&& 31)) &&& 255)), w.2)) (g := [jin (w.1 93 4) 300]) (K := [(97, 20), (93, 10), (97, 20), (93, 10)]) (by decide +kernel) rfl rfl rfl hg1 (jk1 kz_97 (jk1 kz_93 (jk1 kz_97 (jk1 kz_93 jk0)))) ?_
      refine jlw_c (P := fun w2 => Ev l G (jrm d_Model_four 0 0) y_Model_four (none, jR0, z) 0 0 0 0 23 [some (.ref 93), some (.int x1), some (.int x2)] [] jR0 w2) h fun w2 h => ?_
      refine ev_seg (o := 10) (nL := 3) (q := 33) (xs := [(.aload_n 0, 1, 0, 0, .null), (.dup, 1, 0, 0, .null), (.getfield 98, 3, 10, 4, .int 0), (.iconst 1, 1, 0, 0, .int 1), (.iadd, 1, 0, 0, .null), (.putfield 98, 3, 10, 4, .int 0)]) (L' := [some (.ref 93), some (.int x1), some (.int x2)]) (st' := []) (w' := ((jup w2.1 93 4 ((w2.1 93 4) + 1)), w2.2)) (g := []) (K := [(93, 10), (93, 10)]) (by decide +kernel) rfl rfl rfl rfl (jk1 kz_93 (jk1 kz_93 jk0)) ?_
      refine jlw_c (P := fun w3 => Ev l G (jrm d_Model_four 0 0) y_Model_four (none, jR0, z) 0 0 0 0 33 [some (.ref 93), some (.int x1), some (.int x2)] [] jR0 w3) h fun w3 h => ?_
      refine ev_seg (o := 10) (nL := 3) (q := 3) (xs := [(.iinc 2 (-8), 3, 2, 0, .int (-8)), (.goto (-33), 3, 0, 0, .null)]) (L' := [some (.ref 93), some (.int x1), some (.int (x2 + (-8)))]) (st' := []) (w' := w3) (g := []) (K := []) (by decide +kernel) rfl rfl rfl rfl jk0 ?_
      refine ev_mask [true, true, true] ?_
      exact ih _ _ _ _ h
def f_Model_four (x1 : Int32) (w : jW) : Option jW :=
  f_Model_four_h3 jfu x1 24 w
set_option maxRecDepth 20000 in
theorem e_Model_four {l : Launch} {G : jG} (hG : jX G) {x1 : Int32} {w : jW} {z : jW} (h : f_Model_four x1 w = some z) : Ct l G y_Model_four d_Model_four 0 0 [.ref 93, .int x1] jR0 w (none, jR0, z) := by
  rw [f_Model_four] at h
  refine Ct.of (L := [some (.ref 93), some (.int x1), none]) (by decide) (Nat.le_of_ble_eq_true rfl) rfl ?_
  refine ev_seg (o := 10) (nL := 3) (q := 3) (xs := [(.bipush 24, 2, 0, 0, .int 24), (.istore_n 2, 1, 2, 0, .null)]) (L' := [some (.ref 93), some (.int x1), some (.int 24)]) (st' := []) (w' := w) (g := []) (K := []) (by decide +kernel) rfl rfl rfl rfl jk0 ?_
  refine ev_mask [true, true, true] ?_
  exact t_Model_four_h3 hG jfu _ _ _ _ h
def f_Model_feed (x1 : Int32) (x2 : Int32) (x3 : Int32) (x4 : Int32) (x5 : Int32) (w : jW) : Option (Int32 × jW) :=
  if ((w.1 93 4) + 20) ≤ 300 then
    Option.bind (f_Model_four x1 w) fun q1 =>
    Option.bind (f_Model_four x2 q1) fun q2 =>
    Option.bind (f_Model_four x3 q2) fun q3 =>
    Option.bind (f_Model_four x4 q3) fun q4 =>
    Option.bind (f_Model_four x5 q4) fun q5 =>
    some ((q5.1 93 4), q5)
  else
    some ((-1), w)
set_option maxRecDepth 20000 in
theorem e_Model_feed {l : Launch} {G : jG} (hG : jX G) {x1 : Int32} {x2 : Int32} {x3 : Int32} {x4 : Int32} {x5 : Int32} {w : jW} {z : (Int32 × jW)} (h : f_Model_feed x1 x2 x3 x4 x5 w = some z) : Ct l G y_Model_feed d_Model_feed 0 0 [.ref 93, .int x1, .int x2, .int x3, .int x4, .int x5] jR0 w (some (.int z.1), jR0, z.2) := by
  rw [f_Model_feed] at h
  refine Ct.of (L := [some (.ref 93), some (.int x1), some (.int x2), some (.int x3), some (.int x4), some (.int x5)]) (by decide) (Nat.le_of_ble_eq_true rfl) rfl ?_
  refine ev_seg (o := 10) (nL := 6) (q := 10) (xs := [(.aload_n 0, 1, 0, 0, .null), (.getfield 98, 3, 10, 4, .int 0), (.bipush 20, 2, 0, 0, .int 20), (.iadd, 1, 0, 0, .null), (.sipush 300, 3, 0, 0, .int 300)]) (L' := [some (.ref 93), some (.int x1), some (.int x2), some (.int x3), some (.int x4), some (.int x5)]) (st' := [.int 300, .int ((w.1 93 4) + 20)]) (w' := w) (g := []) (K := [(93, 10)]) (by decide +kernel) rfl rfl rfl rfl (jk1 kz_93 jk0) ?_
  refine ev_icmp_le (off := 5) (tgt := 15) (by decide +kernel) (by decide) (fun c6 => ?_) (fun c6 => ?_)
  · replace h := jpos c6 h
    refine ev_seg (o := 10) (nL := 6) (q := 17) (xs := [(.aload_n 0, 1, 0, 0, .null), (.iload_n 1, 1, 1, 0, .null)]) (L' := [some (.ref 93), some (.int x1), some (.int x2), some (.int x3), some (.int x4), some (.int x5)]) (st' := [.int x1, .ref 93]) (w' := w) (g := []) (K := []) (by decide +kernel) rfl rfl rfl rfl jk0 ?_
    obtain ⟨q1, hq1, h⟩ := jbe h
    refine ev_callV (ci := 10) (a := 93) (y2 := y_Model_four) (o := 10) (idx := 101) (d2 := d_Model_four) (n := 1) (mc2 := 0) (ms2 := 0) (As := [.int x1]) (st := []) (res2 := (none, jR0, q1)) (by decide +kernel) rfl lk_10_101 mo_Model_four mv_Model_four ⟨Nat.le_of_ble_eq_true rfl, Nat.le_of_ble_eq_true rfl⟩ rfl rfl kz_93 (by decide) rfl (Nat.le_of_ble_eq_true rfl) ⟨Nat.le_refl _, Nat.le_refl _⟩ hG (e_Model_four hG hq1) ?_
    refine ev_seg (o := 10) (nL := 6) (q := 22) (xs := [(.aload_n 0, 1, 0, 0, .null), (.iload_n 2, 1, 2, 0, .null)]) (L' := [some (.ref 93), some (.int x1), some (.int x2), some (.int x3), some (.int x4), some (.int x5)]) (st' := [.int x2, .ref 93]) (w' := q1) (g := []) (K := []) (by decide +kernel) rfl rfl rfl rfl jk0 ?_
    obtain ⟨q2, hq2, h⟩ := jbe h
    refine ev_callV (ci := 10) (a := 93) (y2 := y_Model_four) (o := 10) (idx := 101) (d2 := d_Model_four) (n := 1) (mc2 := 0) (ms2 := 0) (As := [.int x2]) (st := []) (res2 := (none, jR0, q2)) (by decide +kernel) rfl lk_10_101 mo_Model_four mv_Model_four ⟨Nat.le_of_ble_eq_true rfl, Nat.le_of_ble_eq_true rfl⟩ rfl rfl kz_93 (by decide) rfl (Nat.le_of_ble_eq_true rfl) ⟨Nat.le_refl _, Nat.le_refl _⟩ hG (e_Model_four hG hq2) ?_
    refine ev_seg (o := 10) (nL := 6) (q := 27) (xs := [(.aload_n 0, 1, 0, 0, .null), (.iload_n 3, 1, 3, 0, .null)]) (L' := [some (.ref 93), some (.int x1), some (.int x2), some (.int x3), some (.int x4), some (.int x5)]) (st' := [.int x3, .ref 93]) (w' := q2) (g := []) (K := []) (by decide +kernel) rfl rfl rfl rfl jk0 ?_
    obtain ⟨q3, hq3, h⟩ := jbe h
    refine ev_callV (ci := 10) (a := 93) (y2 := y_Model_four) (o := 10) (idx := 101) (d2 := d_Model_four) (n := 1) (mc2 := 0) (ms2 := 0) (As := [.int x3]) (st := []) (res2 := (none, jR0, q3)) (by decide +kernel) rfl lk_10_101 mo_Model_four mv_Model_four ⟨Nat.le_of_ble_eq_true rfl, Nat.le_of_ble_eq_true rfl⟩ rfl rfl kz_93 (by decide) rfl (Nat.le_of_ble_eq_true rfl) ⟨Nat.le_refl _, Nat.le_refl _⟩ hG (e_Model_four hG hq3) ?_
    refine ev_seg (o := 10) (nL := 6) (q := 33) (xs := [(.aload_n 0, 1, 0, 0, .null), (.iload 4, 2, 4, 0, .null)]) (L' := [some (.ref 93), some (.int x1), some (.int x2), some (.int x3), some (.int x4), some (.int x5)]) (st' := [.int x4, .ref 93]) (w' := q3) (g := []) (K := []) (by decide +kernel) rfl rfl rfl rfl jk0 ?_
    obtain ⟨q4, hq4, h⟩ := jbe h
    refine ev_callV (ci := 10) (a := 93) (y2 := y_Model_four) (o := 10) (idx := 101) (d2 := d_Model_four) (n := 1) (mc2 := 0) (ms2 := 0) (As := [.int x4]) (st := []) (res2 := (none, jR0, q4)) (by decide +kernel) rfl lk_10_101 mo_Model_four mv_Model_four ⟨Nat.le_of_ble_eq_true rfl, Nat.le_of_ble_eq_true rfl⟩ rfl rfl kz_93 (by decide) rfl (Nat.le_of_ble_eq_true rfl) ⟨Nat.le_refl _, Nat.le_refl _⟩ hG (e_Model_four hG hq4) ?_
    refine ev_seg (o := 10) (nL := 6) (q := 39) (xs := [(.aload_n 0, 1, 0, 0, .null), (.iload 5, 2, 5, 0, .null)]) (L' := [some (.ref 93), some (.int x1), some (.int x2), some (.int x3), some (.int x4), some (.int x5)]) (st' := [.int x5, .ref 93]) (w' := q4) (g := []) (K := []) (by decide +kernel) rfl rfl rfl rfl jk0 ?_
    obtain ⟨q5, hq5, h⟩ := jbe h
    refine ev_callV (ci := 10) (a := 93) (y2 := y_Model_four) (o := 10) (idx := 101) (d2 := d_Model_four) (n := 1) (mc2 := 0) (ms2 := 0) (As := [.int x5]) (st := []) (res2 := (none, jR0, q5)) (by decide +kernel) rfl lk_10_101 mo_Model_four mv_Model_four ⟨Nat.le_of_ble_eq_true rfl, Nat.le_of_ble_eq_true rfl⟩ rfl rfl kz_93 (by decide) rfl (Nat.le_of_ble_eq_true rfl) ⟨Nat.le_refl _, Nat.le_refl _⟩ hG (e_Model_four hG hq5) ?_
    refine ev_seg (o := 10) (nL := 6) (q := 46) (xs := [(.aload_n 0, 1, 0, 0, .null), (.getfield 98, 3, 10, 4, .int 0)]) (L' := [some (.ref 93), some (.int x1), some (.int x2), some (.int x3), some (.int x4), some (.int x5)]) (st' := [.int (q5.1 93 4)]) (w' := q5) (g := []) (K := [(93, 10)]) (by decide +kernel) rfl rfl rfl rfl (jk1 kz_93 jk0) ?_
    cases h
    exact ev_iret (by decide +kernel) rfl rfl rfl rfl
  · replace h := jneg c6 h
    refine ev_seg (o := 10) (nL := 6) (q := 14) (xs := [(.iconst (-1), 1, 0, 0, .int (-1))]) (L' := [some (.ref 93), some (.int x1), some (.int x2), some (.int x3), some (.int x4), some (.int x5)]) (st' := [.int (-1)]) (w' := w) (g := []) (K := []) (by decide +kernel) rfl rfl rfl rfl jk0 ?_
    cases h
    exact ev_iret (by decide +kernel) rfl rfl rfl rfl
def f_Model_end (x1 : Int32) (w : jW) : Option (Int32 × jW) :=
  Option.bind (f_Model_isIn x1 0 (w.1 93 4) w) fun q1 =>
  if q1.1 = 0 then
    some ((-1), q1.2)
  else
    jlw ((jup q1.2.1 93 4 x1), q1.2.2) fun w2 =>
    some (x1, w2)
set_option maxRecDepth 20000 in
theorem e_Model_end {l : Launch} {G : jG} (hG : jX G) {x1 : Int32} {w : jW} {z : (Int32 × jW)} (h : f_Model_end x1 w = some z) : Ct l G y_Model_end d_Model_end 0 0 [.ref 93, .int x1] jR0 w (some (.int z.1), jR0, z.2) := by
  rw [f_Model_end] at h
  refine Ct.of (L := [some (.ref 93), some (.int x1)]) (by decide) (Nat.le_of_ble_eq_true rfl) rfl ?_
  refine ev_seg (o := 10) (nL := 2) (q := 6) (xs := [(.iload_n 1, 1, 1, 0, .null), (.iconst 0, 1, 0, 0, .int 0), (.aload_n 0, 1, 0, 0, .null), (.getfield 98, 3, 10, 4, .int 0)]) (L' := [some (.ref 93), some (.int x1)]) (st' := [.int (w.1 93 4), .int 0, .int x1]) (w' := w) (g := []) (K := [(93, 10)]) (by decide +kernel) rfl rfl rfl rfl (jk1 kz_93 jk0) ?_
  obtain ⟨q1, hq1, h⟩ := jbe h
  refine ev_callS (y2 := y_Model_isIn) (o := 10) (idx := 46) (d2 := d_Model_isIn) (n := 3) (mc2 := 0) (ms2 := 0) (As := [.int x1, .int 0, .int (w.1 93 4)]) (st := []) (res2 := (some (.int q1.1), jR0, q1.2)) (by decide +kernel) rfl lk_10_46 mo_Model_isIn ms_Model_isIn ⟨Nat.le_of_ble_eq_true rfl, Nat.le_of_ble_eq_true rfl⟩ rfl rfl (Nat.le_of_ble_eq_true rfl) ⟨Nat.le_refl _, Nat.le_refl _⟩ hG (e_Model_isIn hG hq1) ?_
  refine ev_if_ne (off := 5) (tgt := 14) (by decide +kernel) (by decide) (fun c3 => ?_) (fun c3 => ?_)
  · replace h := jneg c3 h
    refine ev_seg (o := 10) (nL := 2) (q := 19) (xs := [(.aload_n 0, 1, 0, 0, .null), (.iload_n 1, 1, 1, 0, .null), (.putfield 98, 3, 10, 4, .int 0)]) (L' := [some (.ref 93), some (.int x1)]) (st' := []) (w' := ((jup q1.2.1 93 4 x1), q1.2.2)) (g := []) (K := [(93, 10)]) (by decide +kernel) rfl rfl rfl rfl (jk1 kz_93 jk0) ?_
    refine jlw_c (P := fun w2 => Ev l G (jrm d_Model_end 0 0) y_Model_end (some (.int z.1), jR0, z.2) 0 0 0 0 19 [some (.ref 93), some (.int x1)] [] jR0 w2) h fun w2 h => ?_
    refine ev_seg (o := 10) (nL := 2) (q := 20) (xs := [(.iload_n 1, 1, 1, 0, .null)]) (L' := [some (.ref 93), some (.int x1)]) (st' := [.int x1]) (w' := w2) (g := []) (K := []) (by decide +kernel) rfl rfl rfl rfl jk0 ?_
    cases h
    exact ev_iret (by decide +kernel) rfl rfl rfl rfl
  · replace h := jpos c3 h
    refine ev_seg (o := 10) (nL := 2) (q := 13) (xs := [(.iconst (-1), 1, 0, 0, .int (-1))]) (L' := [some (.ref 93), some (.int x1)]) (st' := [.int (-1)]) (w' := q1.2) (g := []) (K := []) (by decide +kernel) rfl rfl rfl rfl jk0 ?_
    cases h
    exact ev_iret (by decide +kernel) rfl rfl rfl rfl
def f_Model_see (x1 : Int32) (w : jW) : Option (Int32 × jW) :=
  if x1 < (w.1 93 4) then
    if jal [jin x1 300] = true then
    some ((w.1 97 (Int32.toNatClampNeg x1)), w)
    else none
  else
    some ((-1), w)
set_option maxRecDepth 20000 in
theorem e_Model_see {l : Launch} {G : jG} (hG : jX G) {x1 : Int32} {w : jW} {z : (Int32 × jW)} (h : f_Model_see x1 w = some z) : Ct l G y_Model_see d_Model_see 0 0 [.ref 93, .int x1] jR0 w (some (.int z.1), jR0, z.2) := by
  rw [f_Model_see] at h
  refine Ct.of (L := [some (.ref 93), some (.int x1)]) (by decide) (Nat.le_of_ble_eq_true rfl) rfl ?_
  refine ev_seg (o := 10) (nL := 2) (q := 5) (xs := [(.iload_n 1, 1, 1, 0, .null), (.aload_n 0, 1, 0, 0, .null), (.getfield 98, 3, 10, 4, .int 0)]) (L' := [some (.ref 93), some (.int x1)]) (st' := [.int (w.1 93 4), .int x1]) (w' := w) (g := []) (K := [(93, 10)]) (by decide +kernel) rfl rfl rfl rfl (jk1 kz_93 jk0) ?_
  refine ev_icmp_ge (off := 12) (tgt := 17) (by decide +kernel) (by decide) (fun c2 => ?_) (fun c2 => ?_)
  · replace h := jneg c2 h
    refine ev_seg (o := 10) (nL := 2) (q := 18) (xs := [(.iconst (-1), 1, 0, 0, .int (-1))]) (L' := [some (.ref 93), some (.int x1)]) (st' := [.int (-1)]) (w' := w) (g := []) (K := []) (by decide +kernel) rfl rfl rfl rfl jk0 ?_
    cases h
    exact ev_iret (by decide +kernel) rfl rfl rfl rfl
  · replace h := jpos c2 h
    obtain ⟨hg1, h⟩ := jgd h
    refine ev_seg (o := 10) (nL := 2) (q := 18) (xs := [(.aload_n 0, 1, 0, 0, .null), (.getfield 19, 3, 10, 3, .ref 20), (.iload_n 1, 1, 1, 0, .null), (.iaload, 1, 0, 0, .null), (.goto 4, 3, 0, 0, .null)]) (L' := [some (.ref 93), some (.int x1)]) (st' := [.int (w.1 97 (Int32.toNatClampNeg x1))]) (w' := w) (g := [jin x1 300]) (K := [(97, 20), (97, 20), (93, 10)]) (by decide +kernel) rfl rfl rfl hg1 (jk1 kz_97 (jk1 kz_97 (jk1 kz_93 jk0))) ?_
    cases h
    exact ev_iret (by decide +kernel) rfl rfl rfl rfl
def f_Model_isLetter (x0 : Int32) (w : jW) : Option (Int32 × jW) :=
  Option.bind (f_Model_isIn x0 97 122 w) fun q1 =>
  if q1.1 = 0 then
    Option.bind (f_Model_isIn x0 65 90 q1.2) fun q2 =>
    if q2.1 = 0 then
      some (0, q2.2)
    else
      some (1, q2.2)
  else
    some (1, q1.2)
set_option maxRecDepth 20000 in
theorem e_Model_isLetter {l : Launch} {G : jG} (hG : jX G) {x0 : Int32} {w : jW} {z : (Int32 × jW)} (h : f_Model_isLetter x0 w = some z) : Ct l G y_Model_isLetter d_Model_isLetter 0 0 [.int x0] jR0 w (some (.int z.1), jR0, z.2) := by
  rw [f_Model_isLetter] at h
  refine Ct.of (L := [some (.int x0)]) (by decide) (Nat.le_of_ble_eq_true rfl) rfl ?_
  refine ev_seg (o := 10) (nL := 1) (q := 5) (xs := [(.iload_n 0, 1, 0, 0, .null), (.bipush 97, 2, 0, 0, .int 97), (.bipush 122, 2, 0, 0, .int 122)]) (L' := [some (.int x0)]) (st' := [.int 122, .int 97, .int x0]) (w' := w) (g := []) (K := []) (by decide +kernel) rfl rfl rfl rfl jk0 ?_
  obtain ⟨q1, hq1, h⟩ := jbe h
  refine ev_callS (y2 := y_Model_isIn) (o := 10) (idx := 46) (d2 := d_Model_isIn) (n := 3) (mc2 := 0) (ms2 := 0) (As := [.int x0, .int 97, .int 122]) (st := []) (res2 := (some (.int q1.1), jR0, q1.2)) (by decide +kernel) rfl lk_10_46 mo_Model_isIn ms_Model_isIn ⟨Nat.le_of_ble_eq_true rfl, Nat.le_of_ble_eq_true rfl⟩ rfl rfl (Nat.le_of_ble_eq_true rfl) ⟨Nat.le_refl _, Nat.le_refl _⟩ hG (e_Model_isIn hG hq1) ?_
  refine ev_if_ne (off := 14) (tgt := 22) (by decide +kernel) (by decide) (fun c4 => ?_) (fun c4 => ?_)
  · replace h := jneg c4 h
    refine ev_seg (o := 10) (nL := 1) (q := 27) (xs := [(.iconst 1, 1, 0, 0, .int 1), (.goto 4, 3, 0, 0, .null)]) (L' := [some (.int x0)]) (st' := [.int 1]) (w' := q1.2) (g := []) (K := []) (by decide +kernel) rfl rfl rfl rfl jk0 ?_
    cases h
    exact ev_zret (by decide +kernel) rfl rfl rfl rfl rfl
  · replace h := jpos c4 h
    refine ev_seg (o := 10) (nL := 1) (q := 16) (xs := [(.iload_n 0, 1, 0, 0, .null), (.bipush 65, 2, 0, 0, .int 65), (.bipush 90, 2, 0, 0, .int 90)]) (L' := [some (.int x0)]) (st' := [.int 90, .int 65, .int x0]) (w' := q1.2) (g := []) (K := []) (by decide +kernel) rfl rfl rfl rfl jk0 ?_
    obtain ⟨q2, hq2, h⟩ := jbe h
    refine ev_callS (y2 := y_Model_isIn) (o := 10) (idx := 46) (d2 := d_Model_isIn) (n := 3) (mc2 := 0) (ms2 := 0) (As := [.int x0, .int 65, .int 90]) (st := []) (res2 := (some (.int q2.1), jR0, q2.2)) (by decide +kernel) rfl lk_10_46 mo_Model_isIn ms_Model_isIn ⟨Nat.le_of_ble_eq_true rfl, Nat.le_of_ble_eq_true rfl⟩ rfl rfl (Nat.le_of_ble_eq_true rfl) ⟨Nat.le_refl _, Nat.le_refl _⟩ hG (e_Model_isIn hG hq2) ?_
    refine ev_if_eq (off := 7) (tgt := 26) (by decide +kernel) (by decide) (fun c3 => ?_) (fun c3 => ?_)
    · replace h := jpos c3 h
      refine ev_seg (o := 10) (nL := 1) (q := 27) (xs := [(.iconst 0, 1, 0, 0, .int 0)]) (L' := [some (.int x0)]) (st' := [.int 0]) (w' := q2.2) (g := []) (K := []) (by decide +kernel) rfl rfl rfl rfl jk0 ?_
      cases h
      exact ev_zret (by decide +kernel) rfl rfl rfl rfl rfl
    · replace h := jneg c3 h
      refine ev_seg (o := 10) (nL := 1) (q := 27) (xs := [(.iconst 1, 1, 0, 0, .int 1), (.goto 4, 3, 0, 0, .null)]) (L' := [some (.int x0)]) (st' := [.int 1]) (w' := q2.2) (g := []) (K := []) (by decide +kernel) rfl rfl rfl rfl jk0 ?_
      cases h
      exact ev_zret (by decide +kernel) rfl rfl rfl rfl rfl
def f_Model_isDigit (x0 : Int32) (w : jW) : Option (Int32 × jW) :=
  Option.bind (f_Model_isIn x0 48 57 w) fun q1 =>
  if jbo q1.1 = true then some (q1.1, q1.2) else none
set_option maxRecDepth 20000 in
theorem e_Model_isDigit {l : Launch} {G : jG} (hG : jX G) {x0 : Int32} {w : jW} {z : (Int32 × jW)} (h : f_Model_isDigit x0 w = some z) : Ct l G y_Model_isDigit d_Model_isDigit 0 0 [.int x0] jR0 w (some (.int z.1), jR0, z.2) := by
  rw [f_Model_isDigit] at h
  refine Ct.of (L := [some (.int x0)]) (by decide) (Nat.le_of_ble_eq_true rfl) rfl ?_
  refine ev_seg (o := 10) (nL := 1) (q := 5) (xs := [(.iload_n 0, 1, 0, 0, .null), (.bipush 48, 2, 0, 0, .int 48), (.bipush 57, 2, 0, 0, .int 57)]) (L' := [some (.int x0)]) (st' := [.int 57, .int 48, .int x0]) (w' := w) (g := []) (K := []) (by decide +kernel) rfl rfl rfl rfl jk0 ?_
  obtain ⟨q1, hq1, h⟩ := jbe h
  refine ev_callS (y2 := y_Model_isIn) (o := 10) (idx := 46) (d2 := d_Model_isIn) (n := 3) (mc2 := 0) (ms2 := 0) (As := [.int x0, .int 48, .int 57]) (st := []) (res2 := (some (.int q1.1), jR0, q1.2)) (by decide +kernel) rfl lk_10_46 mo_Model_isIn ms_Model_isIn ⟨Nat.le_of_ble_eq_true rfl, Nat.le_of_ble_eq_true rfl⟩ rfl rfl (Nat.le_of_ble_eq_true rfl) ⟨Nat.le_refl _, Nat.le_refl _⟩ hG (e_Model_isIn hG hq1) ?_
  obtain ⟨hz, h⟩ := jgd h
  cases h
  exact ev_zret (by decide +kernel) rfl hz rfl rfl rfl
def f_Model_nextToken_j318 (x1 : Int32) (w : jW) : Option jW :=
  Option.bind (f_Model_see (w.1 93 7) w) fun q10 =>
  if q10.1 = 61 then
    jlw ((jup q10.2.1 93 7 ((q10.2.1 93 7) + 1)), q10.2.2) fun w11 =>
    if x1 = 60 then
      jlw ((jup w11.1 93 9 4), w11.2) fun w13 =>
      some w13
    else
      jlw ((jup w11.1 93 9 5), w11.2) fun w12 =>
      some w12
  else
    some q10.2
set_option maxRecDepth 20000 in
theorem t_Model_nextToken_j318 {l : Launch} {G : jG} (hG : jX G) {x1 : Int32} {w : jW} {z : jW} (h : f_Model_nextToken_j318 x1 w = some z) : Ev l G (jrm d_Model_nextToken 0 0) y_Model_nextToken (none, jR0, z) 0 0 0 0 318 [some (.ref 93), some (.int x1)] [] jR0 w := by
  rw [f_Model_nextToken_j318] at h
  refine ev_seg (o := 10) (nL := 2) (q := 323) (xs := [(.aload_n 0, 1, 0, 0, .null), (.aload_n 0, 1, 0, 0, .null), (.getfield 105, 3, 10, 7, .int 0)]) (L' := [some (.ref 93), some (.int x1)]) (st' := [.int (w.1 93 7), .ref 93]) (w' := w) (g := []) (K := [(93, 10)]) (by decide +kernel) rfl rfl rfl rfl (jk1 kz_93 jk0) ?_
  obtain ⟨q10, hq10, h⟩ := jbe h
  refine ev_callV (ci := 10) (a := 93) (y2 := y_Model_see) (o := 10) (idx := 108) (d2 := d_Model_see) (n := 1) (mc2 := 0) (ms2 := 0) (As := [.int (w.1 93 7)]) (st := []) (res2 := (some (.int q10.1), jR0, q10.2)) (by decide +kernel) rfl lk_10_108 mo_Model_see mv_Model_see ⟨Nat.le_of_ble_eq_true rfl, Nat.le_of_ble_eq_true rfl⟩ rfl rfl kz_93 (by decide) rfl (Nat.le_of_ble_eq_true rfl) ⟨Nat.le_refl _, Nat.le_refl _⟩ hG (e_Model_see hG hq10) ?_
  refine ev_seg (o := 10) (nL := 2) (q := 328) (xs := [(.bipush 61, 2, 0, 0, .int 61)]) (L' := [some (.ref 93), some (.int x1)]) (st' := [.int 61, .int q10.1]) (w' := q10.2) (g := []) (K := []) (by decide +kernel) rfl rfl rfl rfl jk0 ?_
  refine ev_icmp_ne (off := 28) (tgt := 356) (by decide +kernel) (by decide) (fun c15 => ?_) (fun c15 => ?_)
  · replace h := jneg c15 h
    cases h
    exact ev_vret (by decide +kernel) rfl rfl rfl rfl
  · replace h := jpos c15 h
    refine ev_seg (o := 10) (nL := 2) (q := 341) (xs := [(.aload_n 0, 1, 0, 0, .null), (.dup, 1, 0, 0, .null), (.getfield 105, 3, 10, 7, .int 0), (.iconst 1, 1, 0, 0, .int 1), (.iadd, 1, 0, 0, .null), (.putfield 105, 3, 10, 7, .int 0)]) (L' := [some (.ref 93), some (.int x1)]) (st' := []) (w' := ((jup q10.2.1 93 7 ((q10.2.1 93 7) + 1)), q10.2.2)) (g := []) (K := [(93, 10), (93, 10)]) (by decide +kernel) rfl rfl rfl rfl (jk1 kz_93 (jk1 kz_93 jk0)) ?_
    refine jlw_c (P := fun w11 => Ev l G (jrm d_Model_nextToken 0 0) y_Model_nextToken (none, jR0, z) 0 0 0 0 341 [some (.ref 93), some (.int x1)] [] jR0 w11) h fun w11 h => ?_
    refine ev_seg (o := 10) (nL := 2) (q := 345) (xs := [(.aload_n 0, 1, 0, 0, .null), (.iload_n 1, 1, 1, 0, .null), (.bipush 60, 2, 0, 0, .int 60)]) (L' := [some (.ref 93), some (.int x1)]) (st' := [.int 60, .int x1, .ref 93]) (w' := w11) (g := []) (K := []) (by decide +kernel) rfl rfl rfl rfl jk0 ?_
    refine ev_icmp_ne (off := 7) (tgt := 352) (by decide +kernel) (by decide) (fun c14 => ?_) (fun c14 => ?_)
    · replace h := jneg c14 h
      refine ev_seg (o := 10) (nL := 2) (q := 356) (xs := [(.iconst 5, 1, 0, 0, .int 5), (.putfield 114, 3, 10, 9, .int 0)]) (L' := [some (.ref 93), some (.int x1)]) (st' := []) (w' := ((jup w11.1 93 9 5), w11.2)) (g := []) (K := [(93, 10)]) (by decide +kernel) rfl rfl rfl rfl (jk1 kz_93 jk0) ?_
      refine jlw_c (P := fun w12 => Ev l G (jrm d_Model_nextToken 0 0) y_Model_nextToken (none, jR0, z) 0 0 0 0 356 [some (.ref 93), some (.int x1)] [] jR0 w12) h fun w12 h => ?_
      cases h
      exact ev_vret (by decide +kernel) rfl rfl rfl rfl
    · replace h := jpos c14 h
      refine ev_seg (o := 10) (nL := 2) (q := 356) (xs := [(.iconst 4, 1, 0, 0, .int 4), (.goto 4, 3, 0, 0, .null), (.putfield 114, 3, 10, 9, .int 0)]) (L' := [some (.ref 93), some (.int x1)]) (st' := []) (w' := ((jup w11.1 93 9 4), w11.2)) (g := []) (K := [(93, 10)]) (by decide +kernel) rfl rfl rfl rfl (jk1 kz_93 jk0) ?_
      refine jlw_c (P := fun w13 => Ev l G (jrm d_Model_nextToken 0 0) y_Model_nextToken (none, jR0, z) 0 0 0 0 356 [some (.ref 93), some (.int x1)] [] jR0 w13) h fun w13 h => ?_
      cases h
      exact ev_vret (by decide +kernel) rfl rfl rfl rfl
def f_Model_nextToken_j303 (x1 : Int32) (s0 : Int32) (w : jW) : Option jW :=
  jlw ((jup w.1 93 9 s0), w.2) fun w9 =>
  if x1 = 60 then
    f_Model_nextToken_j318 x1 w9
  else
    if x1 = 62 then
      f_Model_nextToken_j318 x1 w9
    else
      some w9
set_option maxRecDepth 20000 in
theorem t_Model_nextToken_j303 {l : Launch} {G : jG} (hG : jX G) {x1 : Int32} {s0 : Int32} {w : jW} {z : jW} (h : f_Model_nextToken_j303 x1 s0 w = some z) : Ev l G (jrm d_Model_nextToken 0 0) y_Model_nextToken (none, jR0, z) 0 0 0 0 303 [some (.ref 93), some (.int x1)] [.int s0, .ref 93] jR0 w := by
  rw [f_Model_nextToken_j303] at h
  refine ev_seg (o := 10) (nL := 2) (q := 306) (xs := [(.putfield 114, 3, 10, 9, .int 0)]) (L' := [some (.ref 93), some (.int x1)]) (st' := []) (w' := ((jup w.1 93 9 s0), w.2)) (g := []) (K := [(93, 10)]) (by decide +kernel) rfl rfl rfl rfl (jk1 kz_93 jk0) ?_
  refine jlw_c (P := fun w9 => Ev l G (jrm d_Model_nextToken 0 0) y_Model_nextToken (none, jR0, z) 0 0 0 0 306 [some (.ref 93), some (.int x1)] [] jR0 w9) h fun w9 h => ?_
  refine ev_seg (o := 10) (nL := 2) (q := 309) (xs := [(.iload_n 1, 1, 1, 0, .null), (.bipush 60, 2, 0, 0, .int 60)]) (L' := [some (.ref 93), some (.int x1)]) (st' := [.int 60, .int x1]) (w' := w9) (g := []) (K := []) (by decide +kernel) rfl rfl rfl rfl jk0 ?_
  refine ev_icmp_eq (off := 9) (tgt := 318) (by decide +kernel) (by decide) (fun c17 => ?_) (fun c17 => ?_)
  · replace h := jpos c17 h
    refine ev_mask [true, true] ?_
    exact t_Model_nextToken_j318 hG h
  · replace h := jneg c17 h
    refine ev_seg (o := 10) (nL := 2) (q := 315) (xs := [(.iload_n 1, 1, 1, 0, .null), (.bipush 62, 2, 0, 0, .int 62)]) (L' := [some (.ref 93), some (.int x1)]) (st' := [.int 62, .int x1]) (w' := w9) (g := []) (K := []) (by decide +kernel) rfl rfl rfl rfl jk0 ?_
    refine ev_icmp_ne (off := 41) (tgt := 356) (by decide +kernel) (by decide) (fun c16 => ?_) (fun c16 => ?_)
    · replace h := jneg c16 h
      cases h
      exact ev_vret (by decide +kernel) rfl rfl rfl rfl
    · replace h := jpos c16 h
      refine ev_mask [true, true] ?_
      exact t_Model_nextToken_j318 hG h
def f_Model_nextToken_j298 (x1 : Int32) (w : jW) : Option jW :=
  f_Model_nextToken_j303 x1 x1 w
set_option maxRecDepth 20000 in
theorem t_Model_nextToken_j298 {l : Launch} {G : jG} (hG : jX G) {x1 : Int32} {w : jW} {z : jW} (h : f_Model_nextToken_j298 x1 w = some z) : Ev l G (jrm d_Model_nextToken 0 0) y_Model_nextToken (none, jR0, z) 0 0 0 0 298 [some (.ref 93), some (.int x1)] [.ref 93] jR0 w := by
  rw [f_Model_nextToken_j298] at h
  refine ev_seg (o := 10) (nL := 2) (q := 303) (xs := [(.iload_n 1, 1, 1, 0, .null), (.goto 4, 3, 0, 0, .null)]) (L' := [some (.ref 93), some (.int x1)]) (st' := [.int x1, .ref 93]) (w' := w) (g := []) (K := []) (by decide +kernel) rfl rfl rfl rfl jk0 ?_
  refine ev_mask [true, true] ?_
  exact t_Model_nextToken_j303 hG h
def f_Model_nextToken_h161 : Nat → jW → Option jW
  | 0, _ => none
  | n + 1, w =>
  Option.bind (f_Model_see (w.1 93 7) w) fun q27 =>
  Option.bind (f_Model_isLetter q27.1 q27.2) fun q28 =>
  if q28.1 = 0 then
    if ((q28.2.1 93 7) - (q28.2.1 93 8)) ≤ 6 then
      some q28.2
    else
      jlw (q28.2.1, (jup q28.2.2 93 11 0)) fun w29 =>
      some w29
  else
    if ((q28.2.1 93 7) - (q28.2.1 93 8)) < 6 then
      Option.bind (f_Model_see (q28.2.1 93 7) q28.2) fun q32 =>
      jlw (q32.2.1, (jup q32.2.2 93 11 (((q28.2.2 93 11) <<< (Int32.toInt64 8 &&& 63)) ||| (Int32.toInt64 q32.1)))) fun w33 =>
      jlw ((jup w33.1 93 7 ((w33.1 93 7) + 1)), w33.2) fun w34 =>
      (f_Model_nextToken_h161 n) w34
    else
      jlw ((jup q28.2.1 93 7 ((q28.2.1 93 7) + 1)), q28.2.2) fun w31 =>
      (f_Model_nextToken_h161 n) w31
set_option maxRecDepth 20000 in
theorem t_Model_nextToken_h161 {l : Launch} {G : jG} (hG : jX G) : ∀ (n : Nat) (w : jW) (z : jW), f_Model_nextToken_h161 n w = some z → Ev l G (jrm d_Model_nextToken 0 0) y_Model_nextToken (none, jR0, z) 0 0 0 0 161 [some (.ref 93), none] [] jR0 w := by
  intro n
  induction n with
  | zero => intro w z h; simp only [f_Model_nextToken_h161] at h; cases h
  | succ n ih =>
    intro w z h
    rw [f_Model_nextToken_h161] at h
    refine ev_seg (o := 10) (nL := 2) (q := 166) (xs := [(.aload_n 0, 1, 0, 0, .null), (.aload_n 0, 1, 0, 0, .null), (.getfield 105, 3, 10, 7, .int 0)]) (L' := [some (.ref 93), none]) (st' := [.int (w.1 93 7), .ref 93]) (w' := w) (g := []) (K := [(93, 10)]) (by decide +kernel) rfl rfl rfl rfl (jk1 kz_93 jk0) ?_
    obtain ⟨q27, hq27, h⟩ := jbe h
    refine ev_callV (ci := 10) (a := 93) (y2 := y_Model_see) (o := 10) (idx := 108) (d2 := d_Model_see) (n := 1) (mc2 := 0) (ms2 := 0) (As := [.int (w.1 93 7)]) (st := []) (res2 := (some (.int q27.1), jR0, q27.2)) (by decide +kernel) rfl lk_10_108 mo_Model_see mv_Model_see ⟨Nat.le_of_ble_eq_true rfl, Nat.le_of_ble_eq_true rfl⟩ rfl rfl kz_93 (by decide) rfl (Nat.le_of_ble_eq_true rfl) ⟨Nat.le_refl _, Nat.le_refl _⟩ hG (e_Model_see hG hq27) ?_
    obtain ⟨q28, hq28, h⟩ := jbe h
    refine ev_callS (y2 := y_Model_isLetter) (o := 10) (idx := 124) (d2 := d_Model_isLetter) (n := 1) (mc2 := 0) (ms2 := 0) (As := [.int q27.1]) (st := []) (res2 := (some (.int q28.1), jR0, q28.2)) (by decide +kernel) rfl lk_10_124 mo_Model_isLetter ms_Model_isLetter ⟨Nat.le_of_ble_eq_true rfl, Nat.le_of_ble_eq_true rfl⟩ rfl rfl (Nat.le_of_ble_eq_true rfl) ⟨Nat.le_refl _, Nat.le_refl _⟩ hG (e_Model_isLetter hG hq28) ?_
    refine ev_if_eq (off := 51) (tgt := 223) (by decide +kernel) (by decide) (fun c36 => ?_) (fun c36 => ?_)
    · replace h := jpos c36 h
      refine ev_seg (o := 10) (nL := 2) (q := 234) (xs := [(.aload_n 0, 1, 0, 0, .null), (.getfield 105, 3, 10, 7, .int 0), (.aload_n 0, 1, 0, 0, .null), (.getfield 111, 3, 10, 8, .int 0), (.isub, 1, 0, 0, .null), (.bipush 6, 2, 0, 0, .int 6)]) (L' := [some (.ref 93), none]) (st' := [.int 6, .int ((q28.2.1 93 7) - (q28.2.1 93 8))]) (w' := q28.2) (g := []) (K := [(93, 10), (93, 10)]) (by decide +kernel) rfl rfl rfl rfl (jk1 kz_93 (jk1 kz_93 jk0)) ?_
      refine ev_icmp_le (off := 122) (tgt := 356) (by decide +kernel) (by decide) (fun c30 => ?_) (fun c30 => ?_)
      · replace h := jpos c30 h
        cases h
        exact ev_vret (by decide +kernel) rfl rfl rfl rfl
      · replace h := jneg c30 h
        refine ev_seg (o := 10) (nL := 2) (q := 242) (xs := [(.aload_n 0, 1, 0, 0, .null), (.lconst 0, 1, 0, 0, .long 0), (.putfield 127, 3, 10, 11, .long 0)]) (L' := [some (.ref 93), none]) (st' := []) (w' := (q28.2.1, (jup q28.2.2 93 11 0))) (g := []) (K := [(93, 10)]) (by decide +kernel) rfl rfl rfl rfl (jk1 kz_93 jk0) ?_
        refine jlw_c (P := fun w29 => Ev l G (jrm d_Model_nextToken 0 0) y_Model_nextToken (none, jR0, z) 0 0 0 0 242 [some (.ref 93), none] [] jR0 w29) h fun w29 h => ?_
        refine ev_seg (o := 10) (nL := 2) (q := 356) (xs := [(.goto 114, 3, 0, 0, .null)]) (L' := [some (.ref 93), none]) (st' := []) (w' := w29) (g := []) (K := []) (by decide +kernel) rfl rfl rfl rfl jk0 ?_
        cases h
        exact ev_vret (by decide +kernel) rfl rfl rfl rfl
    · replace h := jneg c36 h
      refine ev_seg (o := 10) (nL := 2) (q := 186) (xs := [(.aload_n 0, 1, 0, 0, .null), (.getfield 105, 3, 10, 7, .int 0), (.aload_n 0, 1, 0, 0, .null), (.getfield 111, 3, 10, 8, .int 0), (.isub, 1, 0, 0, .null), (.bipush 6, 2, 0, 0, .int 6)]) (L' := [some (.ref 93), none]) (st' := [.int 6, .int ((q28.2.1 93 7) - (q28.2.1 93 8))]) (w' := q28.2) (g := []) (K := [(93, 10), (93, 10)]) (by decide +kernel) rfl rfl rfl rfl (jk1 kz_93 (jk1 kz_93 jk0)) ?_
      refine ev_icmp_ge (off := 24) (tgt := 210) (by decide +kernel) (by decide) (fun c35 => ?_) (fun c35 => ?_)
      · replace h := jneg c35 h
        refine ev_seg (o := 10) (nL := 2) (q := 220) (xs := [(.aload_n 0, 1, 0, 0, .null), (.dup, 1, 0, 0, .null), (.getfield 105, 3, 10, 7, .int 0), (.iconst 1, 1, 0, 0, .int 1), (.iadd, 1, 0, 0, .null), (.putfield 105, 3, 10, 7, .int 0)]) (L' := [some (.ref 93), none]) (st' := []) (w' := ((jup q28.2.1 93 7 ((q28.2.1 93 7) + 1)), q28.2.2)) (g := []) (K := [(93, 10), (93, 10)]) (by decide +kernel) rfl rfl rfl rfl (jk1 kz_93 (jk1 kz_93 jk0)) ?_
        refine jlw_c (P := fun w31 => Ev l G (jrm d_Model_nextToken 0 0) y_Model_nextToken (none, jR0, z) 0 0 0 0 220 [some (.ref 93), none] [] jR0 w31) h fun w31 h => ?_
        refine ev_seg (o := 10) (nL := 2) (q := 161) (xs := [(.goto (-59), 3, 0, 0, .null)]) (L' := [some (.ref 93), none]) (st' := []) (w' := w31) (g := []) (K := []) (by decide +kernel) rfl rfl rfl rfl jk0 ?_
        refine ev_mask [true, false] ?_
        exact ih _ _ h
      · replace h := jpos c35 h
        refine ev_seg (o := 10) (nL := 2) (q := 202) (xs := [(.aload_n 0, 1, 0, 0, .null), (.aload_n 0, 1, 0, 0, .null), (.getfield 127, 3, 10, 11, .long 0), (.bipush 8, 2, 0, 0, .int 8), (.lshl, 1, 0, 0, .null), (.aload_n 0, 1, 0, 0, .null), (.aload_n 0, 1, 0, 0, .null), (.getfield 105, 3, 10, 7, .int 0)]) (L' := [some (.ref 93), none]) (st' := [.int (q28.2.1 93 7), .ref 93, .long ((q28.2.2 93 11) <<< (Int32.toInt64 8 &&& 63)), .ref 93]) (w' := q28.2) (g := []) (K := [(93, 10), (93, 10)]) (by decide +kernel) rfl rfl rfl rfl (jk1 kz_93 (jk1 kz_93 jk0)) ?_
        obtain ⟨q32, hq32, h⟩ := jbe h
        refine ev_callV (ci := 10) (a := 93) (y2 := y_Model_see) (o := 10) (idx := 108) (d2 := d_Model_see) (n := 1) (mc2 := 0) (ms2 := 0) (As := [.int (q28.2.1 93 7)]) (st := [.long ((q28.2.2 93 11) <<< (Int32.toInt64 8 &&& 63)), .ref 93]) (res2 := (some (.int q32.1), jR0, q32.2)) (by decide +kernel) rfl lk_10_108 mo_Model_see mv_Model_see ⟨Nat.le_of_ble_eq_true rfl, Nat.le_of_ble_eq_true rfl⟩ rfl rfl kz_93 (by decide) rfl (Nat.le_of_ble_eq_true rfl) ⟨Nat.le_refl _, Nat.le_refl _⟩ hG (e_Model_see hG hq32) ?_
        refine ev_seg (o := 10) (nL := 2) (q := 210) (xs := [(.i2l, 1, 0, 0, .null), (.lor, 1, 0, 0, .null), (.putfield 127, 3, 10, 11, .long 0)]) (L' := [some (.ref 93), none]) (st' := []) (w' := (q32.2.1, (jup q32.2.2 93 11 (((q28.2.2 93 11) <<< (Int32.toInt64 8 &&& 63)) ||| (Int32.toInt64 q32.1))))) (g := []) (K := [(93, 10)]) (by decide +kernel) rfl rfl rfl rfl (jk1 kz_93 jk0) ?_
        refine jlw_c (P := fun w33 => Ev l G (jrm d_Model_nextToken 0 0) y_Model_nextToken (none, jR0, z) 0 0 0 0 210 [some (.ref 93), none] [] jR0 w33) h fun w33 h => ?_
        refine ev_seg (o := 10) (nL := 2) (q := 220) (xs := [(.aload_n 0, 1, 0, 0, .null), (.dup, 1, 0, 0, .null), (.getfield 105, 3, 10, 7, .int 0), (.iconst 1, 1, 0, 0, .int 1), (.iadd, 1, 0, 0, .null), (.putfield 105, 3, 10, 7, .int 0)]) (L' := [some (.ref 93), none]) (st' := []) (w' := ((jup w33.1 93 7 ((w33.1 93 7) + 1)), w33.2)) (g := []) (K := [(93, 10), (93, 10)]) (by decide +kernel) rfl rfl rfl rfl (jk1 kz_93 (jk1 kz_93 jk0)) ?_
        refine jlw_c (P := fun w34 => Ev l G (jrm d_Model_nextToken 0 0) y_Model_nextToken (none, jR0, z) 0 0 0 0 220 [some (.ref 93), none] [] jR0 w34) h fun w34 h => ?_
        refine ev_seg (o := 10) (nL := 2) (q := 161) (xs := [(.goto (-59), 3, 0, 0, .null)]) (L' := [some (.ref 93), none]) (st' := []) (w' := w34) (g := []) (K := []) (by decide +kernel) rfl rfl rfl rfl jk0 ?_
        refine ev_mask [true, false] ?_
        exact ih _ _ h
def f_Model_nextToken_h85 : Nat → jW → Option jW
  | 0, _ => none
  | n + 1, w =>
  Option.bind (f_Model_see (w.1 93 7) w) fun q40 =>
  Option.bind (f_Model_isDigit q40.1 q40.2) fun q41 =>
  if q41.1 = 0 then
    some q41.2
  else
    if (q41.2.1 93 10) < 100000 then
      Option.bind (f_Model_see (q41.2.1 93 7) q41.2) fun q43 =>
      jlw ((jup q43.2.1 93 10 (((10 * (q41.2.1 93 10)) + q43.1) - 48)), q43.2.2) fun w44 =>
      jlw ((jup w44.1 93 7 ((w44.1 93 7) + 1)), w44.2) fun w45 =>
      (f_Model_nextToken_h85 n) w45
    else
      jlw ((jup q41.2.1 93 7 ((q41.2.1 93 7) + 1)), q41.2.2) fun w42 =>
      (f_Model_nextToken_h85 n) w42
set_option maxRecDepth 20000 in
theorem t_Model_nextToken_h85 {l : Launch} {G : jG} (hG : jX G) : ∀ (n : Nat) (w : jW) (z : jW), f_Model_nextToken_h85 n w = some z → Ev l G (jrm d_Model_nextToken 0 0) y_Model_nextToken (none, jR0, z) 0 0 0 0 85 [some (.ref 93), none] [] jR0 w := by
  intro n
  induction n with
  | zero => intro w z h; simp only [f_Model_nextToken_h85] at h; cases h
  | succ n ih =>
    intro w z h
    rw [f_Model_nextToken_h85] at h
    refine ev_seg (o := 10) (nL := 2) (q := 90) (xs := [(.aload_n 0, 1, 0, 0, .null), (.aload_n 0, 1, 0, 0, .null), (.getfield 105, 3, 10, 7, .int 0)]) (L' := [some (.ref 93), none]) (st' := [.int (w.1 93 7), .ref 93]) (w' := w) (g := []) (K := [(93, 10)]) (by decide +kernel) rfl rfl rfl rfl (jk1 kz_93 jk0) ?_
    obtain ⟨q40, hq40, h⟩ := jbe h
    refine ev_callV (ci := 10) (a := 93) (y2 := y_Model_see) (o := 10) (idx := 108) (d2 := d_Model_see) (n := 1) (mc2 := 0) (ms2 := 0) (As := [.int (w.1 93 7)]) (st := []) (res2 := (some (.int q40.1), jR0, q40.2)) (by decide +kernel) rfl lk_10_108 mo_Model_see mv_Model_see ⟨Nat.le_of_ble_eq_true rfl, Nat.le_of_ble_eq_true rfl⟩ rfl rfl kz_93 (by decide) rfl (Nat.le_of_ble_eq_true rfl) ⟨Nat.le_refl _, Nat.le_refl _⟩ hG (e_Model_see hG hq40) ?_
    obtain ⟨q41, hq41, h⟩ := jbe h
    refine ev_callS (y2 := y_Model_isDigit) (o := 10) (idx := 117) (d2 := d_Model_isDigit) (n := 1) (mc2 := 0) (ms2 := 0) (As := [.int q40.1]) (st := []) (res2 := (some (.int q41.1), jR0, q41.2)) (by decide +kernel) rfl lk_10_117 mo_Model_isDigit ms_Model_isDigit ⟨Nat.le_of_ble_eq_true rfl, Nat.le_of_ble_eq_true rfl⟩ rfl rfl (Nat.le_of_ble_eq_true rfl) ⟨Nat.le_refl _, Nat.le_refl _⟩ hG (e_Model_isDigit hG hq41) ?_
    refine ev_if_eq (off := 260) (tgt := 356) (by decide +kernel) (by decide) (fun c47 => ?_) (fun c47 => ?_)
    · replace h := jpos c47 h
      cases h
      exact ev_vret (by decide +kernel) rfl rfl rfl rfl
    · replace h := jneg c47 h
      refine ev_seg (o := 10) (nL := 2) (q := 105) (xs := [(.aload_n 0, 1, 0, 0, .null), (.getfield 120, 3, 10, 10, .int 0), (.ldc 123, 2, 0, 0, .int 100000)]) (L' := [some (.ref 93), none]) (st' := [.int 100000, .int (q41.2.1 93 10)]) (w' := q41.2) (g := []) (K := [(93, 10)]) (by decide +kernel) rfl rfl rfl rfl (jk1 kz_93 jk0) ?_
      refine ev_icmp_ge (off := 26) (tgt := 131) (by decide +kernel) (by decide) (fun c46 => ?_) (fun c46 => ?_)
      · replace h := jneg c46 h
        refine ev_seg (o := 10) (nL := 2) (q := 141) (xs := [(.aload_n 0, 1, 0, 0, .null), (.dup, 1, 0, 0, .null), (.getfield 105, 3, 10, 7, .int 0), (.iconst 1, 1, 0, 0, .int 1), (.iadd, 1, 0, 0, .null), (.putfield 105, 3, 10, 7, .int 0)]) (L' := [some (.ref 93), none]) (st' := []) (w' := ((jup q41.2.1 93 7 ((q41.2.1 93 7) + 1)), q41.2.2)) (g := []) (K := [(93, 10), (93, 10)]) (by decide +kernel) rfl rfl rfl rfl (jk1 kz_93 (jk1 kz_93 jk0)) ?_
        refine jlw_c (P := fun w42 => Ev l G (jrm d_Model_nextToken 0 0) y_Model_nextToken (none, jR0, z) 0 0 0 0 141 [some (.ref 93), none] [] jR0 w42) h fun w42 h => ?_
        refine ev_seg (o := 10) (nL := 2) (q := 85) (xs := [(.goto (-56), 3, 0, 0, .null)]) (L' := [some (.ref 93), none]) (st' := []) (w' := w42) (g := []) (K := []) (by decide +kernel) rfl rfl rfl rfl jk0 ?_
        refine ev_mask [true, false] ?_
        exact ih _ _ h
      · replace h := jpos c46 h
        refine ev_seg (o := 10) (nL := 2) (q := 121) (xs := [(.aload_n 0, 1, 0, 0, .null), (.bipush 10, 2, 0, 0, .int 10), (.aload_n 0, 1, 0, 0, .null), (.getfield 120, 3, 10, 10, .int 0), (.imul, 1, 0, 0, .null), (.aload_n 0, 1, 0, 0, .null), (.aload_n 0, 1, 0, 0, .null), (.getfield 105, 3, 10, 7, .int 0)]) (L' := [some (.ref 93), none]) (st' := [.int (q41.2.1 93 7), .ref 93, .int (10 * (q41.2.1 93 10)), .ref 93]) (w' := q41.2) (g := []) (K := [(93, 10), (93, 10)]) (by decide +kernel) rfl rfl rfl rfl (jk1 kz_93 (jk1 kz_93 jk0)) ?_
        obtain ⟨q43, hq43, h⟩ := jbe h
        refine ev_callV (ci := 10) (a := 93) (y2 := y_Model_see) (o := 10) (idx := 108) (d2 := d_Model_see) (n := 1) (mc2 := 0) (ms2 := 0) (As := [.int (q41.2.1 93 7)]) (st := [.int (10 * (q41.2.1 93 10)), .ref 93]) (res2 := (some (.int q43.1), jR0, q43.2)) (by decide +kernel) rfl lk_10_108 mo_Model_see mv_Model_see ⟨Nat.le_of_ble_eq_true rfl, Nat.le_of_ble_eq_true rfl⟩ rfl rfl kz_93 (by decide) rfl (Nat.le_of_ble_eq_true rfl) ⟨Nat.le_refl _, Nat.le_refl _⟩ hG (e_Model_see hG hq43) ?_
        refine ev_seg (o := 10) (nL := 2) (q := 131) (xs := [(.iadd, 1, 0, 0, .null), (.bipush 48, 2, 0, 0, .int 48), (.isub, 1, 0, 0, .null), (.putfield 120, 3, 10, 10, .int 0)]) (L' := [some (.ref 93), none]) (st' := []) (w' := ((jup q43.2.1 93 10 (((10 * (q41.2.1 93 10)) + q43.1) - 48)), q43.2.2)) (g := []) (K := [(93, 10)]) (by decide +kernel) rfl rfl rfl rfl (jk1 kz_93 jk0) ?_
        refine jlw_c (P := fun w44 => Ev l G (jrm d_Model_nextToken 0 0) y_Model_nextToken (none, jR0, z) 0 0 0 0 131 [some (.ref 93), none] [] jR0 w44) h fun w44 h => ?_
        refine ev_seg (o := 10) (nL := 2) (q := 141) (xs := [(.aload_n 0, 1, 0, 0, .null), (.dup, 1, 0, 0, .null), (.getfield 105, 3, 10, 7, .int 0), (.iconst 1, 1, 0, 0, .int 1), (.iadd, 1, 0, 0, .null), (.putfield 105, 3, 10, 7, .int 0)]) (L' := [some (.ref 93), none]) (st' := []) (w' := ((jup w44.1 93 7 ((w44.1 93 7) + 1)), w44.2)) (g := []) (K := [(93, 10), (93, 10)]) (by decide +kernel) rfl rfl rfl rfl (jk1 kz_93 (jk1 kz_93 jk0)) ?_
        refine jlw_c (P := fun w45 => Ev l G (jrm d_Model_nextToken 0 0) y_Model_nextToken (none, jR0, z) 0 0 0 0 141 [some (.ref 93), none] [] jR0 w45) h fun w45 h => ?_
        refine ev_seg (o := 10) (nL := 2) (q := 85) (xs := [(.goto (-56), 3, 0, 0, .null)]) (L' := [some (.ref 93), none]) (st' := []) (w' := w45) (g := []) (K := []) (by decide +kernel) rfl rfl rfl rfl jk0 ?_
        refine ev_mask [true, false] ?_
        exact ih _ _ h
def f_Model_nextToken_h0 : Nat → jW → Option jW
  | 0, _ => none
  | n + 1, w =>
  Option.bind (f_Model_see (w.1 93 7) w) fun q1 =>
  if q1.1 = 32 then
    jlw ((jup q1.2.1 93 7 ((q1.2.1 93 7) + 1)), q1.2.2) fun w2 =>
    (f_Model_nextToken_h0 n) w2
  else
    Option.bind (f_Model_see (q1.2.1 93 7) q1.2) fun q3 =>
    if q3.1 = 10 then
      jlw ((jup q3.2.1 93 7 ((q3.2.1 93 7) + 1)), q3.2.2) fun w51 =>
      (f_Model_nextToken_h0 n) w51
    else
      jlw ((jup q3.2.1 93 8 (q3.2.1 93 7)), q3.2.2) fun w4 =>
      Option.bind (f_Model_see (w4.1 93 7) w4) fun q5 =>
      if q5.1 < 0 then
        jlw ((jup q5.2.1 93 9 0), q5.2.2) fun w49 =>
        some w49
      else
        Option.bind (f_Model_isDigit q5.1 q5.2) fun q6 =>
        if q6.1 = 0 then
          Option.bind (f_Model_isLetter q5.1 q6.2) fun q7 =>
          if q7.1 = 0 then
            jlw ((jup q7.2.1 93 7 ((q7.2.1 93 7) + 1)), q7.2.2) fun w8 =>
            if q5.1 = 60 then
              f_Model_nextToken_j298 q5.1 w8
            else
              if q5.1 = 62 then
                f_Model_nextToken_j298 q5.1 w8
              else
                if q5.1 = 61 then
                  f_Model_nextToken_j298 q5.1 w8
                else
                  if q5.1 = 35 then
                    f_Model_nextToken_j298 q5.1 w8
                  else
                    if q5.1 = 40 then
                      f_Model_nextToken_j298 q5.1 w8
                    else
                      if q5.1 = 41 then
                        f_Model_nextToken_j298 q5.1 w8
                      else
                        if q5.1 = 59 then
                          f_Model_nextToken_j298 q5.1 w8
                        else
                          f_Model_nextToken_j303 q5.1 3 w8
          else
            jlw ((jup q7.2.1 93 9 2), q7.2.2) fun w25 =>
            jlw (w25.1, (jup w25.2 93 11 0)) fun w26 =>
            f_Model_nextToken_h161 jfu w26
        else
          jlw ((jup q6.2.1 93 9 1), q6.2.2) fun w38 =>
          jlw ((jup w38.1 93 10 0), w38.2) fun w39 =>
          f_Model_nextToken_h85 jfu w39
set_option maxRecDepth 20000 in
theorem t_Model_nextToken_h0 {l : Launch} {G : jG} (hG : jX G) : ∀ (n : Nat) (w : jW) (z : jW), f_Model_nextToken_h0 n w = some z → Ev l G (jrm d_Model_nextToken 0 0) y_Model_nextToken (none, jR0, z) 0 0 0 0 0 [some (.ref 93), none] [] jR0 w := by
  intro n
  induction n with
  | zero => intro w z h; simp only [f_Model_nextToken_h0] at h; cases h
  | succ n ih =>
    intro w z h
    rw [f_Model_nextToken_h0] at h
    refine ev_seg (o := 10) (nL := 2) (q := 5) (xs := [(.aload_n 0, 1, 0, 0, .null), (.aload_n 0, 1, 0, 0, .null), (.getfield 105, 3, 10, 7, .int 0)]) (L' := [some (.ref 93), none]) (st' := [.int (w.1 93 7), .ref 93]) (w' := w) (g := []) (K := [(93, 10)]) (by decide +kernel) rfl rfl rfl rfl (jk1 kz_93 jk0) ?_
    obtain ⟨q1, hq1, h⟩ := jbe h
    refine ev_callV (ci := 10) (a := 93) (y2 := y_Model_see) (o := 10) (idx := 108) (d2 := d_Model_see) (n := 1) (mc2 := 0) (ms2 := 0) (As := [.int (w.1 93 7)]) (st := []) (res2 := (some (.int q1.1), jR0, q1.2)) (by decide +kernel) rfl lk_10_108 mo_Model_see mv_Model_see ⟨Nat.le_of_ble_eq_true rfl, Nat.le_of_ble_eq_true rfl⟩ rfl rfl kz_93 (by decide) rfl (Nat.le_of_ble_eq_true rfl) ⟨Nat.le_refl _, Nat.le_refl _⟩ hG (e_Model_see hG hq1) ?_
    refine ev_seg (o := 10) (nL := 2) (q := 10) (xs := [(.bipush 32, 2, 0, 0, .int 32)]) (L' := [some (.ref 93), none]) (st' := [.int 32, .int q1.1]) (w' := q1.2) (g := []) (K := []) (by decide +kernel) rfl rfl rfl rfl jk0 ?_
    refine ev_icmp_eq (off := 16) (tgt := 26) (by decide +kernel) (by decide) (fun c53 => ?_) (fun c53 => ?_)
    · replace h := jpos c53 h
      refine ev_seg (o := 10) (nL := 2) (q := 36) (xs := [(.aload_n 0, 1, 0, 0, .null), (.dup, 1, 0, 0, .null), (.getfield 105, 3, 10, 7, .int 0), (.iconst 1, 1, 0, 0, .int 1), (.iadd, 1, 0, 0, .null), (.putfield 105, 3, 10, 7, .int 0)]) (L' := [some (.ref 93), none]) (st' := []) (w' := ((jup q1.2.1 93 7 ((q1.2.1 93 7) + 1)), q1.2.2)) (g := []) (K := [(93, 10), (93, 10)]) (by decide +kernel) rfl rfl rfl rfl (jk1 kz_93 (jk1 kz_93 jk0)) ?_
      refine jlw_c (P := fun w2 => Ev l G (jrm d_Model_nextToken 0 0) y_Model_nextToken (none, jR0, z) 0 0 0 0 36 [some (.ref 93), none] [] jR0 w2) h fun w2 h => ?_
      refine ev_seg (o := 10) (nL := 2) (q := 0) (xs := [(.goto (-36), 3, 0, 0, .null)]) (L' := [some (.ref 93), none]) (st' := []) (w' := w2) (g := []) (K := []) (by decide +kernel) rfl rfl rfl rfl jk0 ?_
      refine ev_mask [true, false] ?_
      exact ih _ _ h
    · replace h := jneg c53 h
      refine ev_seg (o := 10) (nL := 2) (q := 18) (xs := [(.aload_n 0, 1, 0, 0, .null), (.aload_n 0, 1, 0, 0, .null), (.getfield 105, 3, 10, 7, .int 0)]) (L' := [some (.ref 93), none]) (st' := [.int (q1.2.1 93 7), .ref 93]) (w' := q1.2) (g := []) (K := [(93, 10)]) (by decide +kernel) rfl rfl rfl rfl (jk1 kz_93 jk0) ?_
      obtain ⟨q3, hq3, h⟩ := jbe h
      refine ev_callV (ci := 10) (a := 93) (y2 := y_Model_see) (o := 10) (idx := 108) (d2 := d_Model_see) (n := 1) (mc2 := 0) (ms2 := 0) (As := [.int (q1.2.1 93 7)]) (st := []) (res2 := (some (.int q3.1), jR0, q3.2)) (by decide +kernel) rfl lk_10_108 mo_Model_see mv_Model_see ⟨Nat.le_of_ble_eq_true rfl, Nat.le_of_ble_eq_true rfl⟩ rfl rfl kz_93 (by decide) rfl (Nat.le_of_ble_eq_true rfl) ⟨Nat.le_refl _, Nat.le_refl _⟩ hG (e_Model_see hG hq3) ?_
      refine ev_seg (o := 10) (nL := 2) (q := 23) (xs := [(.bipush 10, 2, 0, 0, .int 10)]) (L' := [some (.ref 93), none]) (st' := [.int 10, .int q3.1]) (w' := q3.2) (g := []) (K := []) (by decide +kernel) rfl rfl rfl rfl jk0 ?_
      refine ev_icmp_ne (off := 16) (tgt := 39) (by decide +kernel) (by decide) (fun c52 => ?_) (fun c52 => ?_)
      · replace h := jneg c52 h
        refine ev_seg (o := 10) (nL := 2) (q := 47) (xs := [(.aload_n 0, 1, 0, 0, .null), (.aload_n 0, 1, 0, 0, .null), (.getfield 105, 3, 10, 7, .int 0), (.putfield 111, 3, 10, 8, .int 0)]) (L' := [some (.ref 93), none]) (st' := []) (w' := ((jup q3.2.1 93 8 (q3.2.1 93 7)), q3.2.2)) (g := []) (K := [(93, 10), (93, 10)]) (by decide +kernel) rfl rfl rfl rfl (jk1 kz_93 (jk1 kz_93 jk0)) ?_
        refine jlw_c (P := fun w4 => Ev l G (jrm d_Model_nextToken 0 0) y_Model_nextToken (none, jR0, z) 0 0 0 0 47 [some (.ref 93), none] [] jR0 w4) h fun w4 h => ?_
        refine ev_seg (o := 10) (nL := 2) (q := 52) (xs := [(.aload_n 0, 1, 0, 0, .null), (.aload_n 0, 1, 0, 0, .null), (.getfield 105, 3, 10, 7, .int 0)]) (L' := [some (.ref 93), none]) (st' := [.int (w4.1 93 7), .ref 93]) (w' := w4) (g := []) (K := [(93, 10)]) (by decide +kernel) rfl rfl rfl rfl (jk1 kz_93 jk0) ?_
        obtain ⟨q5, hq5, h⟩ := jbe h
        refine ev_callV (ci := 10) (a := 93) (y2 := y_Model_see) (o := 10) (idx := 108) (d2 := d_Model_see) (n := 1) (mc2 := 0) (ms2 := 0) (As := [.int (w4.1 93 7)]) (st := []) (res2 := (some (.int q5.1), jR0, q5.2)) (by decide +kernel) rfl lk_10_108 mo_Model_see mv_Model_see ⟨Nat.le_of_ble_eq_true rfl, Nat.le_of_ble_eq_true rfl⟩ rfl rfl kz_93 (by decide) rfl (Nat.le_of_ble_eq_true rfl) ⟨Nat.le_refl _, Nat.le_refl _⟩ hG (e_Model_see hG hq5) ?_
        refine ev_seg (o := 10) (nL := 2) (q := 57) (xs := [(.istore_n 1, 1, 1, 0, .null), (.iload_n 1, 1, 1, 0, .null)]) (L' := [some (.ref 93), some (.int q5.1)]) (st' := [.int q5.1]) (w' := q5.2) (g := []) (K := []) (by decide +kernel) rfl rfl rfl rfl jk0 ?_
        refine ev_if_ge (off := 11) (tgt := 68) (by decide +kernel) (by decide) (fun c50 => ?_) (fun c50 => ?_)
        · replace h := jneg c50 h
          refine ev_seg (o := 10) (nL := 2) (q := 69) (xs := [(.iload_n 1, 1, 1, 0, .null)]) (L' := [some (.ref 93), some (.int q5.1)]) (st' := [.int q5.1]) (w' := q5.2) (g := []) (K := []) (by decide +kernel) rfl rfl rfl rfl jk0 ?_
          obtain ⟨q6, hq6, h⟩ := jbe h
          refine ev_callS (y2 := y_Model_isDigit) (o := 10) (idx := 117) (d2 := d_Model_isDigit) (n := 1) (mc2 := 0) (ms2 := 0) (As := [.int q5.1]) (st := []) (res2 := (some (.int q6.1), jR0, q6.2)) (by decide +kernel) rfl lk_10_117 mo_Model_isDigit ms_Model_isDigit ⟨Nat.le_of_ble_eq_true rfl, Nat.le_of_ble_eq_true rfl⟩ rfl rfl (Nat.le_of_ble_eq_true rfl) ⟨Nat.le_refl _, Nat.le_refl _⟩ hG (e_Model_isDigit hG hq6) ?_
          refine ev_if_eq (off := 72) (tgt := 144) (by decide +kernel) (by decide) (fun c48 => ?_) (fun c48 => ?_)
          · replace h := jpos c48 h
            refine ev_seg (o := 10) (nL := 2) (q := 145) (xs := [(.iload_n 1, 1, 1, 0, .null)]) (L' := [some (.ref 93), some (.int q5.1)]) (st' := [.int q5.1]) (w' := q6.2) (g := []) (K := []) (by decide +kernel) rfl rfl rfl rfl jk0 ?_
            obtain ⟨q7, hq7, h⟩ := jbe h
            refine ev_callS (y2 := y_Model_isLetter) (o := 10) (idx := 124) (d2 := d_Model_isLetter) (n := 1) (mc2 := 0) (ms2 := 0) (As := [.int q5.1]) (st := []) (res2 := (some (.int q7.1), jR0, q7.2)) (by decide +kernel) rfl lk_10_124 mo_Model_isLetter ms_Model_isLetter ⟨Nat.le_of_ble_eq_true rfl, Nat.le_of_ble_eq_true rfl⟩ rfl rfl (Nat.le_of_ble_eq_true rfl) ⟨Nat.le_refl _, Nat.le_refl _⟩ hG (e_Model_isLetter hG hq7) ?_
            refine ev_if_eq (off := 97) (tgt := 245) (by decide +kernel) (by decide) (fun c37 => ?_) (fun c37 => ?_)
            · replace h := jpos c37 h
              refine ev_seg (o := 10) (nL := 2) (q := 255) (xs := [(.aload_n 0, 1, 0, 0, .null), (.dup, 1, 0, 0, .null), (.getfield 105, 3, 10, 7, .int 0), (.iconst 1, 1, 0, 0, .int 1), (.iadd, 1, 0, 0, .null), (.putfield 105, 3, 10, 7, .int 0)]) (L' := [some (.ref 93), some (.int q5.1)]) (st' := []) (w' := ((jup q7.2.1 93 7 ((q7.2.1 93 7) + 1)), q7.2.2)) (g := []) (K := [(93, 10), (93, 10)]) (by decide +kernel) rfl rfl rfl rfl (jk1 kz_93 (jk1 kz_93 jk0)) ?_
              refine jlw_c (P := fun w8 => Ev l G (jrm d_Model_nextToken 0 0) y_Model_nextToken (none, jR0, z) 0 0 0 0 255 [some (.ref 93), some (.int q5.1)] [] jR0 w8) h fun w8 h => ?_
              refine ev_seg (o := 10) (nL := 2) (q := 259) (xs := [(.aload_n 0, 1, 0, 0, .null), (.iload_n 1, 1, 1, 0, .null), (.bipush 60, 2, 0, 0, .int 60)]) (L' := [some (.ref 93), some (.int q5.1)]) (st' := [.int 60, .int q5.1, .ref 93]) (w' := w8) (g := []) (K := []) (by decide +kernel) rfl rfl rfl rfl jk0 ?_
              refine ev_icmp_eq (off := 39) (tgt := 298) (by decide +kernel) (by decide) (fun c24 => ?_) (fun c24 => ?_)
              · replace h := jpos c24 h
                refine ev_mask [true, true] ?_
                exact t_Model_nextToken_j298 hG h
              · replace h := jneg c24 h
                refine ev_seg (o := 10) (nL := 2) (q := 265) (xs := [(.iload_n 1, 1, 1, 0, .null), (.bipush 62, 2, 0, 0, .int 62)]) (L' := [some (.ref 93), some (.int q5.1)]) (st' := [.int 62, .int q5.1, .ref 93]) (w' := w8) (g := []) (K := []) (by decide +kernel) rfl rfl rfl rfl jk0 ?_
                refine ev_icmp_eq (off := 33) (tgt := 298) (by decide +kernel) (by decide) (fun c23 => ?_) (fun c23 => ?_)
                · replace h := jpos c23 h
                  refine ev_mask [true, true] ?_
                  exact t_Model_nextToken_j298 hG h
                · replace h := jneg c23 h
                  refine ev_seg (o := 10) (nL := 2) (q := 271) (xs := [(.iload_n 1, 1, 1, 0, .null), (.bipush 61, 2, 0, 0, .int 61)]) (L' := [some (.ref 93), some (.int q5.1)]) (st' := [.int 61, .int q5.1, .ref 93]) (w' := w8) (g := []) (K := []) (by decide +kernel) rfl rfl rfl rfl jk0 ?_
                  refine ev_icmp_eq (off := 27) (tgt := 298) (by decide +kernel) (by decide) (fun c22 => ?_) (fun c22 => ?_)
                  · replace h := jpos c22 h
                    refine ev_mask [true, true] ?_
                    exact t_Model_nextToken_j298 hG h
                  · replace h := jneg c22 h
                    refine ev_seg (o := 10) (nL := 2) (q := 277) (xs := [(.iload_n 1, 1, 1, 0, .null), (.bipush 35, 2, 0, 0, .int 35)]) (L' := [some (.ref 93), some (.int q5.1)]) (st' := [.int 35, .int q5.1, .ref 93]) (w' := w8) (g := []) (K := []) (by decide +kernel) rfl rfl rfl rfl jk0 ?_
                    refine ev_icmp_eq (off := 21) (tgt := 298) (by decide +kernel) (by decide) (fun c21 => ?_) (fun c21 => ?_)
                    · replace h := jpos c21 h
                      refine ev_mask [true, true] ?_
                      exact t_Model_nextToken_j298 hG h
                    · replace h := jneg c21 h
                      refine ev_seg (o := 10) (nL := 2) (q := 283) (xs := [(.iload_n 1, 1, 1, 0, .null), (.bipush 40, 2, 0, 0, .int 40)]) (L' := [some (.ref 93), some (.int q5.1)]) (st' := [.int 40, .int q5.1, .ref 93]) (w' := w8) (g := []) (K := []) (by decide +kernel) rfl rfl rfl rfl jk0 ?_
                      refine ev_icmp_eq (off := 15) (tgt := 298) (by decide +kernel) (by decide) (fun c20 => ?_) (fun c20 => ?_)
                      · replace h := jpos c20 h
                        refine ev_mask [true, true] ?_
                        exact t_Model_nextToken_j298 hG h
                      · replace h := jneg c20 h
                        refine ev_seg (o := 10) (nL := 2) (q := 289) (xs := [(.iload_n 1, 1, 1, 0, .null), (.bipush 41, 2, 0, 0, .int 41)]) (L' := [some (.ref 93), some (.int q5.1)]) (st' := [.int 41, .int q5.1, .ref 93]) (w' := w8) (g := []) (K := []) (by decide +kernel) rfl rfl rfl rfl jk0 ?_
                        refine ev_icmp_eq (off := 9) (tgt := 298) (by decide +kernel) (by decide) (fun c19 => ?_) (fun c19 => ?_)
                        · replace h := jpos c19 h
                          refine ev_mask [true, true] ?_
                          exact t_Model_nextToken_j298 hG h
                        · replace h := jneg c19 h
                          refine ev_seg (o := 10) (nL := 2) (q := 295) (xs := [(.iload_n 1, 1, 1, 0, .null), (.bipush 59, 2, 0, 0, .int 59)]) (L' := [some (.ref 93), some (.int q5.1)]) (st' := [.int 59, .int q5.1, .ref 93]) (w' := w8) (g := []) (K := []) (by decide +kernel) rfl rfl rfl rfl jk0 ?_
                          refine ev_icmp_ne (off := 7) (tgt := 302) (by decide +kernel) (by decide) (fun c18 => ?_) (fun c18 => ?_)
                          · replace h := jneg c18 h
                            refine ev_seg (o := 10) (nL := 2) (q := 303) (xs := [(.iconst 3, 1, 0, 0, .int 3)]) (L' := [some (.ref 93), some (.int q5.1)]) (st' := [.int 3, .ref 93]) (w' := w8) (g := []) (K := []) (by decide +kernel) rfl rfl rfl rfl jk0 ?_
                            refine ev_mask [true, true] ?_
                            exact t_Model_nextToken_j303 hG h
                          · replace h := jpos c18 h
                            refine ev_mask [true, true] ?_
                            exact t_Model_nextToken_j298 hG h
            · replace h := jneg c37 h
              refine ev_seg (o := 10) (nL := 2) (q := 156) (xs := [(.aload_n 0, 1, 0, 0, .null), (.iconst 2, 1, 0, 0, .int 2), (.putfield 114, 3, 10, 9, .int 0)]) (L' := [some (.ref 93), some (.int q5.1)]) (st' := []) (w' := ((jup q7.2.1 93 9 2), q7.2.2)) (g := []) (K := [(93, 10)]) (by decide +kernel) rfl rfl rfl rfl (jk1 kz_93 jk0) ?_
              refine jlw_c (P := fun w25 => Ev l G (jrm d_Model_nextToken 0 0) y_Model_nextToken (none, jR0, z) 0 0 0 0 156 [some (.ref 93), some (.int q5.1)] [] jR0 w25) h fun w25 h => ?_
              refine ev_seg (o := 10) (nL := 2) (q := 161) (xs := [(.aload_n 0, 1, 0, 0, .null), (.lconst 0, 1, 0, 0, .long 0), (.putfield 127, 3, 10, 11, .long 0)]) (L' := [some (.ref 93), some (.int q5.1)]) (st' := []) (w' := (w25.1, (jup w25.2 93 11 0))) (g := []) (K := [(93, 10)]) (by decide +kernel) rfl rfl rfl rfl (jk1 kz_93 jk0) ?_
              refine jlw_c (P := fun w26 => Ev l G (jrm d_Model_nextToken 0 0) y_Model_nextToken (none, jR0, z) 0 0 0 0 161 [some (.ref 93), some (.int q5.1)] [] jR0 w26) h fun w26 h => ?_
              refine ev_mask [true, false] ?_
              exact t_Model_nextToken_h161 hG jfu _ _ h
          · replace h := jneg c48 h
            refine ev_seg (o := 10) (nL := 2) (q := 80) (xs := [(.aload_n 0, 1, 0, 0, .null), (.iconst 1, 1, 0, 0, .int 1), (.putfield 114, 3, 10, 9, .int 0)]) (L' := [some (.ref 93), some (.int q5.1)]) (st' := []) (w' := ((jup q6.2.1 93 9 1), q6.2.2)) (g := []) (K := [(93, 10)]) (by decide +kernel) rfl rfl rfl rfl (jk1 kz_93 jk0) ?_
            refine jlw_c (P := fun w38 => Ev l G (jrm d_Model_nextToken 0 0) y_Model_nextToken (none, jR0, z) 0 0 0 0 80 [some (.ref 93), some (.int q5.1)] [] jR0 w38) h fun w38 h => ?_
            refine ev_seg (o := 10) (nL := 2) (q := 85) (xs := [(.aload_n 0, 1, 0, 0, .null), (.iconst 0, 1, 0, 0, .int 0), (.putfield 120, 3, 10, 10, .int 0)]) (L' := [some (.ref 93), some (.int q5.1)]) (st' := []) (w' := ((jup w38.1 93 10 0), w38.2)) (g := []) (K := [(93, 10)]) (by decide +kernel) rfl rfl rfl rfl (jk1 kz_93 jk0) ?_
            refine jlw_c (P := fun w39 => Ev l G (jrm d_Model_nextToken 0 0) y_Model_nextToken (none, jR0, z) 0 0 0 0 85 [some (.ref 93), some (.int q5.1)] [] jR0 w39) h fun w39 h => ?_
            refine ev_mask [true, false] ?_
            exact t_Model_nextToken_h85 hG jfu _ _ h
        · replace h := jpos c50 h
          refine ev_seg (o := 10) (nL := 2) (q := 65) (xs := [(.aload_n 0, 1, 0, 0, .null), (.iconst 0, 1, 0, 0, .int 0), (.putfield 114, 3, 10, 9, .int 0)]) (L' := [some (.ref 93), some (.int q5.1)]) (st' := []) (w' := ((jup q5.2.1 93 9 0), q5.2.2)) (g := []) (K := [(93, 10)]) (by decide +kernel) rfl rfl rfl rfl (jk1 kz_93 jk0) ?_
          refine jlw_c (P := fun w49 => Ev l G (jrm d_Model_nextToken 0 0) y_Model_nextToken (none, jR0, z) 0 0 0 0 65 [some (.ref 93), some (.int q5.1)] [] jR0 w49) h fun w49 h => ?_
          refine ev_seg (o := 10) (nL := 2) (q := 356) (xs := [(.goto 291, 3, 0, 0, .null)]) (L' := [some (.ref 93), some (.int q5.1)]) (st' := []) (w' := w49) (g := []) (K := []) (by decide +kernel) rfl rfl rfl rfl jk0 ?_
          cases h
          exact ev_vret (by decide +kernel) rfl rfl rfl rfl
      · replace h := jpos c52 h
        refine ev_seg (o := 10) (nL := 2) (q := 36) (xs := [(.aload_n 0, 1, 0, 0, .null), (.dup, 1, 0, 0, .null), (.getfield 105, 3, 10, 7, .int 0), (.iconst 1, 1, 0, 0, .int 1), (.iadd, 1, 0, 0, .null), (.putfield 105, 3, 10, 7, .int 0)]) (L' := [some (.ref 93), none]) (st' := []) (w' := ((jup q3.2.1 93 7 ((q3.2.1 93 7) + 1)), q3.2.2)) (g := []) (K := [(93, 10), (93, 10)]) (by decide +kernel) rfl rfl rfl rfl (jk1 kz_93 (jk1 kz_93 jk0)) ?_
        refine jlw_c (P := fun w51 => Ev l G (jrm d_Model_nextToken 0 0) y_Model_nextToken (none, jR0, z) 0 0 0 0 36 [some (.ref 93), none] [] jR0 w51) h fun w51 h => ?_
        refine ev_seg (o := 10) (nL := 2) (q := 0) (xs := [(.goto (-36), 3, 0, 0, .null)]) (L' := [some (.ref 93), none]) (st' := []) (w' := w51) (g := []) (K := []) (by decide +kernel) rfl rfl rfl rfl jk0 ?_
        refine ev_mask [true, false] ?_
        exact ih _ _ h
def f_Model_nextToken (w : jW) : Option jW :=
  f_Model_nextToken_h0 jfu w
set_option maxRecDepth 20000 in
theorem e_Model_nextToken {l : Launch} {G : jG} (hG : jX G) {w : jW} {z : jW} (h : f_Model_nextToken w = some z) : Ct l G y_Model_nextToken d_Model_nextToken 0 0 [.ref 93] jR0 w (none, jR0, z) := by
  rw [f_Model_nextToken] at h
  refine Ct.of (L := [some (.ref 93), none]) (by decide) (Nat.le_of_ble_eq_true rfl) rfl ?_
  refine ev_mask [true, false] ?_
  exact t_Model_nextToken_h0 hG jfu _ _ h

def f_Law_law_h1647 (xs : Nat → Int32) (Ls : Nat) (k1557 : Int32 → Int32 → Int32 → Int32 → Int32 → jW → Option (Int32 × jW)) (k1566 : Int32 → Int32 → Int32 → Int32 → Int32 → Int32 → jW → Option (Int32 × jW)) (k1575 : Int32 → Int32 → Int32 → Int32 → Int32 → Int32 → Int32 → jW → Option (Int32 × jW)) : Nat → Int32 → Int32 → Int32 → Int32 → Int32 → Int32 → Int32 → Int32 → Int32 → jW → Option (Int32 × jW)
  | 0, _, _, _, _, _, _, _, _, _, _ => none
  | n + 1, x11, x12, x13, x14, x15, x16, x17, x18, x19, w =>
  if x19 ≤ x14 then
    Option.bind (f_Count_possible x15 x16 x17 x19 0 w) fun q35 =>
    if q35.1 ≤ x18 then
      Option.bind (f_Count_possible x15 x16 x17 x19 1 q35.2) fun q36 =>
      if q36.1 < x18 then
        none
      else
        if jal [!(2 == 0)] = true then
        (f_Law_law_h1647 xs Ls k1557 k1566 k1575 n) x11 x12 x13 x14 x15 x16 x17 x18 (x19 + (1 + ((x14 - x17) / 2))) q36.2
        else none
    else
      none
  else
    if jal [!(12 == 0)] = true then
    k1575 x11 x12 x13 x14 x15 x16 (x17 + (1 + (x14 / 12))) w
    else none
set_option maxRecDepth 20000 in
set_option maxHeartbeats 40000000 in
theorem t_Law_law_h1647 {l : Launch} {G : jG} (hG : jX G) {xs : Nat → Int32} {Ls : Nat} (hxs : True) (hLs : jscr G Ls xs) {k1557 : Int32 → Int32 → Int32 → Int32 → Int32 → jW → Option (Int32 × jW)} {k1566 : Int32 → Int32 → Int32 → Int32 → Int32 → Int32 → jW → Option (Int32 × jW)} {k1575 : Int32 → Int32 → Int32 → Int32 → Int32 → Int32 → Int32 → jW → Option (Int32 × jW)} (hk1557 : ∀ (x11 : Int32) (x12 : Int32) (x13 : Int32) (x14 : Int32) (x15 : Int32) (w : jW) (z : (Int32 × jW)), k1557 x11 x12 x13 x14 x15 w = some z → Ev l G room_1 y_Law_law (some (.int z.1), (jRx 105), z.2) 600000 7302250 99 22331 1557 [some (.ref 0), some (.ref 2), some (.ref 93), none, some (.ref 95), none, none, none, some (.ref 98), some (.ref 99), some (.ref 100), some (.int x11), some (.int x12), some (.int x13), some (.int x14), some (.int x15), none, none, none, none, none, none] [] (jRx 101) w) (hk1566 : ∀ (x11 : Int32) (x12 : Int32) (x13 : Int32) (x14 : Int32) (x15 : Int32) (x16 : Int32) (w : jW) (z : (Int32 × jW)), k1566 x11 x12 x13 x14 x15 x16 w = some z → Ev l G room_1 y_Law_law (some (.int z.1), (jRx 105), z.2) 600000 7302250 99 22331 1566 [some (.ref 0), some (.ref 2), some (.ref 93), none, some (.ref 95), none, none, none, some (.ref 98), some (.ref 99), some (.ref 100), some (.int x11), some (.int x12), some (.int x13), some (.int x14), some (.int x15), some (.int x16), none, none, none, none, none] [] (jRx 101) w) (hk1575 : ∀ (x11 : Int32) (x12 : Int32) (x13 : Int32) (x14 : Int32) (x15 : Int32) (x16 : Int32) (x17 : Int32) (w : jW) (z : (Int32 × jW)), k1575 x11 x12 x13 x14 x15 x16 x17 w = some z → Ev l G room_1 y_Law_law (some (.int z.1), (jRx 105), z.2) 600000 7302250 99 22331 1575 [some (.ref 0), some (.ref 2), some (.ref 93), none, some (.ref 95), none, none, none, some (.ref 98), some (.ref 99), some (.ref 100), some (.int x11), some (.int x12), some (.int x13), some (.int x14), some (.int x15), some (.int x16), some (.int x17), none, none, none, none] [] (jRx 101) w) : ∀ (n : Nat) (x11 : Int32) (x12 : Int32) (x13 : Int32) (x14 : Int32) (x15 : Int32) (x16 : Int32) (x17 : Int32) (x18 : Int32) (x19 : Int32) (w : jW) (z : (Int32 × jW)), f_Law_law_h1647 xs Ls k1557 k1566 k1575 n x11 x12 x13 x14 x15 x16 x17 x18 x19 w = some z → Ev l G room_1 y_Law_law (some (.int z.1), (jRx 105), z.2) 600000 7302250 99 22331 1647 [some (.ref 0), some (.ref 2), some (.ref 93), none, some (.ref 95), none, none, none, some (.ref 98), some (.ref 99), some (.ref 100), some (.int x11), some (.int x12), some (.int x13), some (.int x14), some (.int x15), some (.int x16), some (.int x17), some (.int x18), some (.int x19), none, none] [] (jRx 101) w := by
  intro n
  induction n with
  | zero => intro x11 x12 x13 x14 x15 x16 x17 x18 x19 w z h; simp only [f_Law_law_h1647] at h; cases h
  | succ n ih =>
    intro x11 x12 x13 x14 x15 x16 x17 x18 x19 w z h
    rw [f_Law_law_h1647] at h
    refine ev_seg (o := 10) (nL := 22) (q := 1651) (xs := [(.iload 19, 2, 19, 0, .null), (.iload 14, 2, 14, 0, .null)]) (L' := [some (.ref 0), some (.ref 2), some (.ref 93), none, some (.ref 95), none, none, none, some (.ref 98), some (.ref 99), some (.ref 100), some (.int x11), some (.int x12), some (.int x13), some (.int x14), some (.int x15), some (.int x16), some (.int x17), some (.int x18), some (.int x19), none, none]) (st' := [.int x14, .int x19]) (w' := w) (g := []) (K := []) (by decide +kernel) rfl rfl rfl rfl jk0 ?_
    refine ev_icmp_gt (off := 58) (tgt := 1709) (by decide +kernel) (by decide) (fun c40 => ?_) (fun c40 => ?_)
    · replace h := jneg c40 h
      obtain ⟨hg34, h⟩ := jgd h
      refine ev_seg (o := 10) (nL := 22) (q := 1575) (xs := [(.iload 17, 2, 17, 0, .null), (.iconst 1, 1, 0, 0, .int 1), (.iload 14, 2, 14, 0, .null), (.bipush 12, 2, 0, 0, .int 12), (.idiv, 1, 0, 0, .null), (.iadd, 1, 0, 0, .null), (.iadd, 1, 0, 0, .null), (.istore 17, 2, 17, 0, .null), (.goto (-146), 3, 0, 0, .null)]) (L' := [some (.ref 0), some (.ref 2), some (.ref 93), none, some (.ref 95), none, none, none, some (.ref 98), some (.ref 99), some (.ref 100), some (.int x11), some (.int x12), some (.int x13), some (.int x14), some (.int x15), some (.int x16), some (.int (x17 + (1 + (x14 / 12)))), some (.int x18), some (.int x19), none, none]) (st' := []) (w' := w) (g := [!(12 == 0)]) (K := []) (by decide +kernel) rfl rfl rfl hg34 jk0 ?_
      refine ev_mask [true, true, true, false, true, false, false, false, true, true, true, true, true, true, true, true, true, true, false, false, false, false] ?_
      exact hk1575 _ _ _ _ _ _ _ _ _ h
    · replace h := jpos c40 h
      refine ev_seg (o := 10) (nL := 22) (q := 1664) (xs := [(.aload_n 1, 1, 1, 0, .null), (.iload 15, 2, 15, 0, .null), (.iload 16, 2, 16, 0, .null), (.iload 17, 2, 17, 0, .null), (.iload 19, 2, 19, 0, .null), (.iconst 0, 1, 0, 0, .int 0)]) (L' := [some (.ref 0), some (.ref 2), some (.ref 93), none, some (.ref 95), none, none, none, some (.ref 98), some (.ref 99), some (.ref 100), some (.int x11), some (.int x12), some (.int x13), some (.int x14), some (.int x15), some (.int x16), some (.int x17), some (.int x18), some (.int x19), none, none]) (st' := [.int 0, .int x19, .int x17, .int x16, .int x15, .ref 2]) (w' := w) (g := []) (K := []) (by decide +kernel) rfl rfl rfl rfl jk0 ?_
      obtain ⟨q35, hq35, h⟩ := jbe h
      refine ev_callV (ci := 9) (a := 2) (y2 := y_Count_possible) (o := 10) (idx := 82) (d2 := d_Count_possible) (n := 5) (mc2 := 0) (ms2 := 0) (As := [.int x15, .int x16, .int x17, .int x19, .int 0]) (st := []) (res2 := (some (.int q35.1), (jRx 101), q35.2)) (by decide +kernel) rfl lk_10_82 mo_Count_possible mv_Count_possible ⟨Nat.le_of_ble_eq_true rfl, Nat.le_of_ble_eq_true rfl⟩ rfl rfl (kz_2 (Nat.le_of_ble_eq_true rfl)) (by decide) rfl (Nat.le_of_ble_eq_true rfl) ⟨Nat.le_of_ble_eq_true rfl, Nat.le_of_ble_eq_true rfl⟩ hG (e_Count_possible hG (Nat.le_of_ble_eq_true rfl) hq35) ?_
      refine ev_seg (o := 10) (nL := 22) (q := 1669) (xs := [(.iload 18, 2, 18, 0, .null)]) (L' := [some (.ref 0), some (.ref 2), some (.ref 93), none, some (.ref 95), none, none, none, some (.ref 98), some (.ref 99), some (.ref 100), some (.int x11), some (.int x12), some (.int x13), some (.int x14), some (.int x15), some (.int x16), some (.int x17), some (.int x18), some (.int x19), none, none]) (st' := [.int x18, .int q35.1]) (w' := q35.2) (g := []) (K := []) (by decide +kernel) rfl rfl rfl rfl jk0 ?_
      refine ev_icmp_gt (off := 21) (tgt := 1690) (by decide +kernel) (by decide) (fun c39 => ?_) (fun c39 => ?_)
      · replace h := jneg c39 h
        cases h
      · replace h := jpos c39 h
        refine ev_seg (o := 10) (nL := 22) (q := 1682) (xs := [(.aload_n 1, 1, 1, 0, .null), (.iload 15, 2, 15, 0, .null), (.iload 16, 2, 16, 0, .null), (.iload 17, 2, 17, 0, .null), (.iload 19, 2, 19, 0, .null), (.iconst 1, 1, 0, 0, .int 1)]) (L' := [some (.ref 0), some (.ref 2), some (.ref 93), none, some (.ref 95), none, none, none, some (.ref 98), some (.ref 99), some (.ref 100), some (.int x11), some (.int x12), some (.int x13), some (.int x14), some (.int x15), some (.int x16), some (.int x17), some (.int x18), some (.int x19), none, none]) (st' := [.int 1, .int x19, .int x17, .int x16, .int x15, .ref 2]) (w' := q35.2) (g := []) (K := []) (by decide +kernel) rfl rfl rfl rfl jk0 ?_
        obtain ⟨q36, hq36, h⟩ := jbe h
        refine ev_callV (ci := 9) (a := 2) (y2 := y_Count_possible) (o := 10) (idx := 82) (d2 := d_Count_possible) (n := 5) (mc2 := 0) (ms2 := 0) (As := [.int x15, .int x16, .int x17, .int x19, .int 1]) (st := []) (res2 := (some (.int q36.1), (jRx 101), q36.2)) (by decide +kernel) rfl lk_10_82 mo_Count_possible mv_Count_possible ⟨Nat.le_of_ble_eq_true rfl, Nat.le_of_ble_eq_true rfl⟩ rfl rfl (kz_2 (Nat.le_of_ble_eq_true rfl)) (by decide) rfl (Nat.le_of_ble_eq_true rfl) ⟨Nat.le_of_ble_eq_true rfl, Nat.le_of_ble_eq_true rfl⟩ hG (e_Count_possible hG (Nat.le_of_ble_eq_true rfl) hq36) ?_
        refine ev_seg (o := 10) (nL := 22) (q := 1687) (xs := [(.iload 18, 2, 18, 0, .null)]) (L' := [some (.ref 0), some (.ref 2), some (.ref 93), none, some (.ref 95), none, none, none, some (.ref 98), some (.ref 99), some (.ref 100), some (.int x11), some (.int x12), some (.int x13), some (.int x14), some (.int x15), some (.int x16), some (.int x17), some (.int x18), some (.int x19), none, none]) (st' := [.int x18, .int q36.1]) (w' := q36.2) (g := []) (K := []) (by decide +kernel) rfl rfl rfl rfl jk0 ?_
        refine ev_icmp_ge (off := 5) (tgt := 1692) (by decide +kernel) (by decide) (fun c38 => ?_) (fun c38 => ?_)
        · replace h := jneg c38 h
          obtain ⟨hg37, h⟩ := jgd h
          refine ev_seg (o := 10) (nL := 22) (q := 1647) (xs := [(.iload 19, 2, 19, 0, .null), (.iconst 1, 1, 0, 0, .int 1), (.iload 14, 2, 14, 0, .null), (.iload 17, 2, 17, 0, .null), (.isub, 1, 0, 0, .null), (.iconst 2, 1, 0, 0, .int 2), (.idiv, 1, 0, 0, .null), (.iadd, 1, 0, 0, .null), (.iadd, 1, 0, 0, .null), (.istore 19, 2, 19, 0, .null), (.goto (-59), 3, 0, 0, .null)]) (L' := [some (.ref 0), some (.ref 2), some (.ref 93), none, some (.ref 95), none, none, none, some (.ref 98), some (.ref 99), some (.ref 100), some (.int x11), some (.int x12), some (.int x13), some (.int x14), some (.int x15), some (.int x16), some (.int x17), some (.int x18), some (.int (x19 + (1 + ((x14 - x17) / 2)))), none, none]) (st' := []) (w' := q36.2) (g := [!(2 == 0)]) (K := []) (by decide +kernel) rfl rfl rfl hg37 jk0 ?_
          refine ev_mask [true, true, true, false, true, false, false, false, true, true, true, true, true, true, true, true, true, true, true, true, false, false] ?_
          exact ih _ _ _ _ _ _ _ _ _ _ _ h
        · replace h := jpos c38 h
          cases h
def f_Law_law_h1588 (xs : Nat → Int32) (Ls : Nat) (k1557 : Int32 → Int32 → Int32 → Int32 → Int32 → jW → Option (Int32 × jW)) (k1566 : Int32 → Int32 → Int32 → Int32 → Int32 → Int32 → jW → Option (Int32 × jW)) (k1575 : Int32 → Int32 → Int32 → Int32 → Int32 → Int32 → Int32 → jW → Option (Int32 × jW)) : Nat → Int32 → Int32 → Int32 → Int32 → Int32 → Int32 → Int32 → Int32 → Int32 → jW → Option (Int32 × jW)
  | 0, _, _, _, _, _, _, _, _, _, _ => none
  | n + 1, x11, x12, x13, x14, x15, x16, x17, x18, x19, w =>
  if x19 < x11 then
    if jal [jin ((4 * x19) + 2) 32] = true then
    if (w.1 98 (Int32.toNatClampNeg ((4 * x19) + 2))) = x16 then
      Option.bind (f_Law_where x12 x19 x17 w) fun q42 =>
      if q42.1 = x15 then
        (f_Law_law_h1588 xs Ls k1557 k1566 k1575 n) x11 x12 x13 x14 x15 x16 x17 (x18 + 1) (x19 + 1) q42.2
      else
        (f_Law_law_h1588 xs Ls k1557 k1566 k1575 n) x11 x12 x13 x14 x15 x16 x17 (x18 + 0) (x19 + 1) q42.2
    else
      (f_Law_law_h1588 xs Ls k1557 k1566 k1575 n) x11 x12 x13 x14 x15 x16 x17 (x18 + 0) (x19 + 1) w
    else none
  else
    f_Law_law_h1647 xs Ls k1557 k1566 k1575 jfu x11 x12 x13 x14 x15 x16 x17 x18 x17 w
set_option maxRecDepth 20000 in
set_option maxHeartbeats 40000000 in
theorem t_Law_law_h1588 {l : Launch} {G : jG} (hG : jX G) {xs : Nat → Int32} {Ls : Nat} (hxs : True) (hLs : jscr G Ls xs) {k1557 : Int32 → Int32 → Int32 → Int32 → Int32 → jW → Option (Int32 × jW)} {k1566 : Int32 → Int32 → Int32 → Int32 → Int32 → Int32 → jW → Option (Int32 × jW)} {k1575 : Int32 → Int32 → Int32 → Int32 → Int32 → Int32 → Int32 → jW → Option (Int32 × jW)} (hk1557 : ∀ (x11 : Int32) (x12 : Int32) (x13 : Int32) (x14 : Int32) (x15 : Int32) (w : jW) (z : (Int32 × jW)), k1557 x11 x12 x13 x14 x15 w = some z → Ev l G room_1 y_Law_law (some (.int z.1), (jRx 105), z.2) 600000 7302250 99 22331 1557 [some (.ref 0), some (.ref 2), some (.ref 93), none, some (.ref 95), none, none, none, some (.ref 98), some (.ref 99), some (.ref 100), some (.int x11), some (.int x12), some (.int x13), some (.int x14), some (.int x15), none, none, none, none, none, none] [] (jRx 101) w) (hk1566 : ∀ (x11 : Int32) (x12 : Int32) (x13 : Int32) (x14 : Int32) (x15 : Int32) (x16 : Int32) (w : jW) (z : (Int32 × jW)), k1566 x11 x12 x13 x14 x15 x16 w = some z → Ev l G room_1 y_Law_law (some (.int z.1), (jRx 105), z.2) 600000 7302250 99 22331 1566 [some (.ref 0), some (.ref 2), some (.ref 93), none, some (.ref 95), none, none, none, some (.ref 98), some (.ref 99), some (.ref 100), some (.int x11), some (.int x12), some (.int x13), some (.int x14), some (.int x15), some (.int x16), none, none, none, none, none] [] (jRx 101) w) (hk1575 : ∀ (x11 : Int32) (x12 : Int32) (x13 : Int32) (x14 : Int32) (x15 : Int32) (x16 : Int32) (x17 : Int32) (w : jW) (z : (Int32 × jW)), k1575 x11 x12 x13 x14 x15 x16 x17 w = some z → Ev l G room_1 y_Law_law (some (.int z.1), (jRx 105), z.2) 600000 7302250 99 22331 1575 [some (.ref 0), some (.ref 2), some (.ref 93), none, some (.ref 95), none, none, none, some (.ref 98), some (.ref 99), some (.ref 100), some (.int x11), some (.int x12), some (.int x13), some (.int x14), some (.int x15), some (.int x16), some (.int x17), none, none, none, none] [] (jRx 101) w) : ∀ (n : Nat) (x11 : Int32) (x12 : Int32) (x13 : Int32) (x14 : Int32) (x15 : Int32) (x16 : Int32) (x17 : Int32) (x18 : Int32) (x19 : Int32) (w : jW) (z : (Int32 × jW)), f_Law_law_h1588 xs Ls k1557 k1566 k1575 n x11 x12 x13 x14 x15 x16 x17 x18 x19 w = some z → Ev l G room_1 y_Law_law (some (.int z.1), (jRx 105), z.2) 600000 7302250 99 22331 1588 [some (.ref 0), some (.ref 2), some (.ref 93), none, some (.ref 95), none, none, none, some (.ref 98), some (.ref 99), some (.ref 100), some (.int x11), some (.int x12), some (.int x13), some (.int x14), some (.int x15), some (.int x16), some (.int x17), some (.int x18), some (.int x19), none, none] [] (jRx 101) w := by
  intro n
  induction n with
  | zero => intro x11 x12 x13 x14 x15 x16 x17 x18 x19 w z h; simp only [f_Law_law_h1588] at h; cases h
  | succ n ih =>
    intro x11 x12 x13 x14 x15 x16 x17 x18 x19 w z h
    rw [f_Law_law_h1588] at h
    refine ev_seg (o := 10) (nL := 22) (q := 1592) (xs := [(.iload 19, 2, 19, 0, .null), (.iload 11, 2, 11, 0, .null)]) (L' := [some (.ref 0), some (.ref 2), some (.ref 93), none, some (.ref 95), none, none, none, some (.ref 98), some (.ref 99), some (.ref 100), some (.int x11), some (.int x12), some (.int x13), some (.int x14), some (.int x15), some (.int x16), some (.int x17), some (.int x18), some (.int x19), none, none]) (st' := [.int x11, .int x19]) (w' := w) (g := []) (K := []) (by decide +kernel) rfl rfl rfl rfl jk0 ?_
    refine ev_icmp_ge (off := 51) (tgt := 1643) (by decide +kernel) (by decide) (fun c45 => ?_) (fun c45 => ?_)
    · replace h := jneg c45 h
      refine ev_seg (o := 10) (nL := 22) (q := 1647) (xs := [(.iload 17, 2, 17, 0, .null), (.istore 19, 2, 19, 0, .null)]) (L' := [some (.ref 0), some (.ref 2), some (.ref 93), none, some (.ref 95), none, none, none, some (.ref 98), some (.ref 99), some (.ref 100), some (.int x11), some (.int x12), some (.int x13), some (.int x14), some (.int x15), some (.int x16), some (.int x17), some (.int x18), some (.int x17), none, none]) (st' := []) (w' := w) (g := []) (K := []) (by decide +kernel) rfl rfl rfl rfl jk0 ?_
      refine ev_mask [true, true, true, false, true, false, false, false, true, true, true, true, true, true, true, true, true, true, true, true, false, false] ?_
      exact t_Law_law_h1647 hG hxs hLs hk1557 hk1566 hk1575 jfu _ _ _ _ _ _ _ _ _ _ _ h
    · replace h := jpos c45 h
      obtain ⟨hg41, h⟩ := jgd h
      refine ev_seg (o := 10) (nL := 22) (q := 1608) (xs := [(.iload 18, 2, 18, 0, .null), (.aload 8, 2, 8, 0, .null), (.iconst 4, 1, 0, 0, .int 4), (.iload 19, 2, 19, 0, .null), (.imul, 1, 0, 0, .null), (.iconst 2, 1, 0, 0, .int 2), (.iadd, 1, 0, 0, .null), (.iaload, 1, 0, 0, .null), (.iload 16, 2, 16, 0, .null)]) (L' := [some (.ref 0), some (.ref 2), some (.ref 93), none, some (.ref 95), none, none, none, some (.ref 98), some (.ref 99), some (.ref 100), some (.int x11), some (.int x12), some (.int x13), some (.int x14), some (.int x15), some (.int x16), some (.int x17), some (.int x18), some (.int x19), none, none]) (st' := [.int x16, .int (w.1 98 (Int32.toNatClampNeg ((4 * x19) + 2))), .int x18]) (w' := w) (g := [jin ((4 * x19) + 2) 32]) (K := [(98, 20)]) (by decide +kernel) rfl rfl rfl hg41 (jk1 (rfl) jk0) ?_
      refine ev_icmp_ne (off := 25) (tgt := 1633) (by decide +kernel) (by decide) (fun c44 => ?_) (fun c44 => ?_)
      · replace h := jneg c44 h
        refine ev_seg (o := 10) (nL := 22) (q := 1588) (xs := [(.iconst 0, 1, 0, 0, .int 0), (.iadd, 1, 0, 0, .null), (.istore 18, 2, 18, 0, .null), (.iinc 19 1, 3, 19, 0, .int 1), (.goto (-52), 3, 0, 0, .null)]) (L' := [some (.ref 0), some (.ref 2), some (.ref 93), none, some (.ref 95), none, none, none, some (.ref 98), some (.ref 99), some (.ref 100), some (.int x11), some (.int x12), some (.int x13), some (.int x14), some (.int x15), some (.int x16), some (.int x17), some (.int (x18 + 0)), some (.int (x19 + 1)), none, none]) (st' := []) (w' := w) (g := []) (K := []) (by decide +kernel) rfl rfl rfl rfl jk0 ?_
        refine ev_mask [true, true, true, false, true, false, false, false, true, true, true, true, true, true, true, true, true, true, true, true, false, false] ?_
        exact ih _ _ _ _ _ _ _ _ _ _ _ h
      · replace h := jpos c44 h
        refine ev_seg (o := 10) (nL := 22) (q := 1621) (xs := [(.aload 8, 2, 8, 0, .null), (.aload 9, 2, 9, 0, .null), (.iload 12, 2, 12, 0, .null), (.iload 19, 2, 19, 0, .null), (.iload 17, 2, 17, 0, .null)]) (L' := [some (.ref 0), some (.ref 2), some (.ref 93), none, some (.ref 95), none, none, none, some (.ref 98), some (.ref 99), some (.ref 100), some (.int x11), some (.int x12), some (.int x13), some (.int x14), some (.int x15), some (.int x16), some (.int x17), some (.int x18), some (.int x19), none, none]) (st' := [.int x17, .int x19, .int x12, .ref 99, .ref 98, .int x18]) (w' := w) (g := []) (K := []) (by decide +kernel) rfl rfl rfl rfl jk0 ?_
        obtain ⟨q42, hq42, h⟩ := jbe h
        refine ev_callS (y2 := y_Law_where) (o := 10) (idx := 46) (d2 := d_Law_where) (n := 5) (mc2 := 0) (ms2 := 0) (As := [.ref 98, .ref 99, .int x12, .int x19, .int x17]) (st := [.int x18]) (res2 := (some (.int q42.1), (jRx 101), q42.2)) (by decide +kernel) rfl lk_10_46 mo_Law_where ms_Law_where ⟨Nat.le_of_ble_eq_true rfl, Nat.le_of_ble_eq_true rfl⟩ rfl rfl (Nat.le_of_ble_eq_true rfl) ⟨Nat.le_of_ble_eq_true rfl, Nat.le_of_ble_eq_true rfl⟩ hG (e_Law_where hG hq42) ?_
        refine ev_seg (o := 10) (nL := 22) (q := 1626) (xs := [(.iload 15, 2, 15, 0, .null)]) (L' := [some (.ref 0), some (.ref 2), some (.ref 93), none, some (.ref 95), none, none, none, some (.ref 98), some (.ref 99), some (.ref 100), some (.int x11), some (.int x12), some (.int x13), some (.int x14), some (.int x15), some (.int x16), some (.int x17), some (.int x18), some (.int x19), none, none]) (st' := [.int x15, .int q42.1, .int x18]) (w' := q42.2) (g := []) (K := []) (by decide +kernel) rfl rfl rfl rfl jk0 ?_
        refine ev_icmp_ne (off := 7) (tgt := 1633) (by decide +kernel) (by decide) (fun c43 => ?_) (fun c43 => ?_)
        · replace h := jneg c43 h
          refine ev_seg (o := 10) (nL := 22) (q := 1588) (xs := [(.iconst 0, 1, 0, 0, .int 0), (.iadd, 1, 0, 0, .null), (.istore 18, 2, 18, 0, .null), (.iinc 19 1, 3, 19, 0, .int 1), (.goto (-52), 3, 0, 0, .null)]) (L' := [some (.ref 0), some (.ref 2), some (.ref 93), none, some (.ref 95), none, none, none, some (.ref 98), some (.ref 99), some (.ref 100), some (.int x11), some (.int x12), some (.int x13), some (.int x14), some (.int x15), some (.int x16), some (.int x17), some (.int (x18 + 0)), some (.int (x19 + 1)), none, none]) (st' := []) (w' := q42.2) (g := []) (K := []) (by decide +kernel) rfl rfl rfl rfl jk0 ?_
          refine ev_mask [true, true, true, false, true, false, false, false, true, true, true, true, true, true, true, true, true, true, true, true, false, false] ?_
          exact ih _ _ _ _ _ _ _ _ _ _ _ h
        · replace h := jpos c43 h
          refine ev_seg (o := 10) (nL := 22) (q := 1588) (xs := [(.iconst 1, 1, 0, 0, .int 1), (.goto 4, 3, 0, 0, .null), (.iadd, 1, 0, 0, .null), (.istore 18, 2, 18, 0, .null), (.iinc 19 1, 3, 19, 0, .int 1), (.goto (-52), 3, 0, 0, .null)]) (L' := [some (.ref 0), some (.ref 2), some (.ref 93), none, some (.ref 95), none, none, none, some (.ref 98), some (.ref 99), some (.ref 100), some (.int x11), some (.int x12), some (.int x13), some (.int x14), some (.int x15), some (.int x16), some (.int x17), some (.int (x18 + 1)), some (.int (x19 + 1)), none, none]) (st' := []) (w' := q42.2) (g := []) (K := []) (by decide +kernel) rfl rfl rfl rfl jk0 ?_
          refine ev_mask [true, true, true, false, true, false, false, false, true, true, true, true, true, true, true, true, true, true, true, true, false, false] ?_
          exact ih _ _ _ _ _ _ _ _ _ _ _ h
def f_Law_law_h1575 (xs : Nat → Int32) (Ls : Nat) (k1557 : Int32 → Int32 → Int32 → Int32 → Int32 → jW → Option (Int32 × jW)) (k1566 : Int32 → Int32 → Int32 → Int32 → Int32 → Int32 → jW → Option (Int32 × jW)) : Nat → Int32 → Int32 → Int32 → Int32 → Int32 → Int32 → Int32 → jW → Option (Int32 × jW)
  | 0, _, _, _, _, _, _, _, _ => none
  | n + 1, x11, x12, x13, x14, x15, x16, x17, w =>
  if x17 ≤ x14 then
    f_Law_law_h1588 xs Ls k1557 k1566 (f_Law_law_h1575 xs Ls k1557 k1566 n) jfu x11 x12 x13 x14 x15 x16 x17 0 0 w
  else
    Option.bind (f_Count_doubted x15 x16 x14 x14 w) fun q32 =>
    if q32.1 = 0 then
      k1566 x11 x12 x13 x14 x15 (x16 + 1) q32.2
    else
      none
set_option maxRecDepth 20000 in
set_option maxHeartbeats 40000000 in
theorem t_Law_law_h1575 {l : Launch} {G : jG} (hG : jX G) {xs : Nat → Int32} {Ls : Nat} (hxs : True) (hLs : jscr G Ls xs) {k1557 : Int32 → Int32 → Int32 → Int32 → Int32 → jW → Option (Int32 × jW)} {k1566 : Int32 → Int32 → Int32 → Int32 → Int32 → Int32 → jW → Option (Int32 × jW)} (hk1557 : ∀ (x11 : Int32) (x12 : Int32) (x13 : Int32) (x14 : Int32) (x15 : Int32) (w : jW) (z : (Int32 × jW)), k1557 x11 x12 x13 x14 x15 w = some z → Ev l G room_1 y_Law_law (some (.int z.1), (jRx 105), z.2) 600000 7302250 99 22331 1557 [some (.ref 0), some (.ref 2), some (.ref 93), none, some (.ref 95), none, none, none, some (.ref 98), some (.ref 99), some (.ref 100), some (.int x11), some (.int x12), some (.int x13), some (.int x14), some (.int x15), none, none, none, none, none, none] [] (jRx 101) w) (hk1566 : ∀ (x11 : Int32) (x12 : Int32) (x13 : Int32) (x14 : Int32) (x15 : Int32) (x16 : Int32) (w : jW) (z : (Int32 × jW)), k1566 x11 x12 x13 x14 x15 x16 w = some z → Ev l G room_1 y_Law_law (some (.int z.1), (jRx 105), z.2) 600000 7302250 99 22331 1566 [some (.ref 0), some (.ref 2), some (.ref 93), none, some (.ref 95), none, none, none, some (.ref 98), some (.ref 99), some (.ref 100), some (.int x11), some (.int x12), some (.int x13), some (.int x14), some (.int x15), some (.int x16), none, none, none, none, none] [] (jRx 101) w) : ∀ (n : Nat) (x11 : Int32) (x12 : Int32) (x13 : Int32) (x14 : Int32) (x15 : Int32) (x16 : Int32) (x17 : Int32) (w : jW) (z : (Int32 × jW)), f_Law_law_h1575 xs Ls k1557 k1566 n x11 x12 x13 x14 x15 x16 x17 w = some z → Ev l G room_1 y_Law_law (some (.int z.1), (jRx 105), z.2) 600000 7302250 99 22331 1575 [some (.ref 0), some (.ref 2), some (.ref 93), none, some (.ref 95), none, none, none, some (.ref 98), some (.ref 99), some (.ref 100), some (.int x11), some (.int x12), some (.int x13), some (.int x14), some (.int x15), some (.int x16), some (.int x17), none, none, none, none] [] (jRx 101) w := by
  intro n
  induction n with
  | zero => intro x11 x12 x13 x14 x15 x16 x17 w z h; simp only [f_Law_law_h1575] at h; cases h
  | succ n ih =>
    intro x11 x12 x13 x14 x15 x16 x17 w z h
    rw [f_Law_law_h1575] at h
    refine ev_seg (o := 10) (nL := 22) (q := 1579) (xs := [(.iload 17, 2, 17, 0, .null), (.iload 14, 2, 14, 0, .null)]) (L' := [some (.ref 0), some (.ref 2), some (.ref 93), none, some (.ref 95), none, none, none, some (.ref 98), some (.ref 99), some (.ref 100), some (.int x11), some (.int x12), some (.int x13), some (.int x14), some (.int x15), some (.int x16), some (.int x17), none, none, none, none]) (st' := [.int x14, .int x17]) (w' := w) (g := []) (K := []) (by decide +kernel) rfl rfl rfl rfl jk0 ?_
    refine ev_icmp_gt (off := 145) (tgt := 1724) (by decide +kernel) (by decide) (fun c46 => ?_) (fun c46 => ?_)
    · replace h := jneg c46 h
      refine ev_seg (o := 10) (nL := 22) (q := 1733) (xs := [(.aload_n 1, 1, 1, 0, .null), (.iload 15, 2, 15, 0, .null), (.iload 16, 2, 16, 0, .null), (.iload 14, 2, 14, 0, .null), (.iload 14, 2, 14, 0, .null)]) (L' := [some (.ref 0), some (.ref 2), some (.ref 93), none, some (.ref 95), none, none, none, some (.ref 98), some (.ref 99), some (.ref 100), some (.int x11), some (.int x12), some (.int x13), some (.int x14), some (.int x15), some (.int x16), some (.int x17), none, none, none, none]) (st' := [.int x14, .int x14, .int x16, .int x15, .ref 2]) (w' := w) (g := []) (K := []) (by decide +kernel) rfl rfl rfl rfl jk0 ?_
      obtain ⟨q32, hq32, h⟩ := jbe h
      refine ev_callV (ci := 9) (a := 2) (y2 := y_Count_doubted) (o := 10) (idx := 86) (d2 := d_Count_doubted) (n := 4) (mc2 := 0) (ms2 := 0) (As := [.int x15, .int x16, .int x14, .int x14]) (st := []) (res2 := (some (.int q32.1), (jRx 101), q32.2)) (by decide +kernel) rfl lk_10_86 mo_Count_doubted mv_Count_doubted ⟨Nat.le_of_ble_eq_true rfl, Nat.le_of_ble_eq_true rfl⟩ rfl rfl (kz_2 (Nat.le_of_ble_eq_true rfl)) (by decide) rfl (Nat.le_of_ble_eq_true rfl) ⟨Nat.le_of_ble_eq_true rfl, Nat.le_of_ble_eq_true rfl⟩ hG (e_Count_doubted hG (Nat.le_of_ble_eq_true rfl) hq32) ?_
      refine ev_if_eq (off := 5) (tgt := 1741) (by decide +kernel) (by decide) (fun c33 => ?_) (fun c33 => ?_)
      · replace h := jpos c33 h
        refine ev_seg (o := 10) (nL := 22) (q := 1566) (xs := [(.iinc 16 1, 3, 16, 0, .int 1), (.goto (-178), 3, 0, 0, .null)]) (L' := [some (.ref 0), some (.ref 2), some (.ref 93), none, some (.ref 95), none, none, none, some (.ref 98), some (.ref 99), some (.ref 100), some (.int x11), some (.int x12), some (.int x13), some (.int x14), some (.int x15), some (.int (x16 + 1)), some (.int x17), none, none, none, none]) (st' := []) (w' := q32.2) (g := []) (K := []) (by decide +kernel) rfl rfl rfl rfl jk0 ?_
        refine ev_mask [true, true, true, false, true, false, false, false, true, true, true, true, true, true, true, true, true, false, false, false, false, false] ?_
        exact hk1566 _ _ _ _ _ _ _ _ h
      · replace h := jneg c33 h
        cases h
    · replace h := jpos c46 h
      refine ev_seg (o := 10) (nL := 22) (q := 1588) (xs := [(.iconst 0, 1, 0, 0, .int 0), (.istore 18, 2, 18, 0, .null), (.iconst 0, 1, 0, 0, .int 0), (.istore 19, 2, 19, 0, .null)]) (L' := [some (.ref 0), some (.ref 2), some (.ref 93), none, some (.ref 95), none, none, none, some (.ref 98), some (.ref 99), some (.ref 100), some (.int x11), some (.int x12), some (.int x13), some (.int x14), some (.int x15), some (.int x16), some (.int x17), some (.int 0), some (.int 0), none, none]) (st' := []) (w' := w) (g := []) (K := []) (by decide +kernel) rfl rfl rfl rfl jk0 ?_
      refine ev_mask [true, true, true, false, true, false, false, false, true, true, true, true, true, true, true, true, true, true, true, true, false, false] ?_
      exact t_Law_law_h1588 hG hxs hLs hk1557 hk1566 ih jfu _ _ _ _ _ _ _ _ _ _ _ h
def f_Law_law_h1566 (xs : Nat → Int32) (Ls : Nat) (k1557 : Int32 → Int32 → Int32 → Int32 → Int32 → jW → Option (Int32 × jW)) : Nat → Int32 → Int32 → Int32 → Int32 → Int32 → Int32 → jW → Option (Int32 × jW)
  | 0, _, _, _, _, _, _, _ => none
  | n + 1, x11, x12, x13, x14, x15, x16, w =>
  if x16 < 3 then
    f_Law_law_h1575 xs Ls k1557 (f_Law_law_h1566 xs Ls k1557 n) jfu x11 x12 x13 x14 x15 x16 0 w
  else
    k1557 x11 x12 x13 x14 (x15 + 1) w
set_option maxRecDepth 20000 in
set_option maxHeartbeats 40000000 in
theorem t_Law_law_h1566 {l : Launch} {G : jG} (hG : jX G) {xs : Nat → Int32} {Ls : Nat} (hxs : True) (hLs : jscr G Ls xs) {k1557 : Int32 → Int32 → Int32 → Int32 → Int32 → jW → Option (Int32 × jW)} (hk1557 : ∀ (x11 : Int32) (x12 : Int32) (x13 : Int32) (x14 : Int32) (x15 : Int32) (w : jW) (z : (Int32 × jW)), k1557 x11 x12 x13 x14 x15 w = some z → Ev l G room_1 y_Law_law (some (.int z.1), (jRx 105), z.2) 600000 7302250 99 22331 1557 [some (.ref 0), some (.ref 2), some (.ref 93), none, some (.ref 95), none, none, none, some (.ref 98), some (.ref 99), some (.ref 100), some (.int x11), some (.int x12), some (.int x13), some (.int x14), some (.int x15), none, none, none, none, none, none] [] (jRx 101) w) : ∀ (n : Nat) (x11 : Int32) (x12 : Int32) (x13 : Int32) (x14 : Int32) (x15 : Int32) (x16 : Int32) (w : jW) (z : (Int32 × jW)), f_Law_law_h1566 xs Ls k1557 n x11 x12 x13 x14 x15 x16 w = some z → Ev l G room_1 y_Law_law (some (.int z.1), (jRx 105), z.2) 600000 7302250 99 22331 1566 [some (.ref 0), some (.ref 2), some (.ref 93), none, some (.ref 95), none, none, none, some (.ref 98), some (.ref 99), some (.ref 100), some (.int x11), some (.int x12), some (.int x13), some (.int x14), some (.int x15), some (.int x16), none, none, none, none, none] [] (jRx 101) w := by
  intro n
  induction n with
  | zero => intro x11 x12 x13 x14 x15 x16 w z h; simp only [f_Law_law_h1566] at h; cases h
  | succ n ih =>
    intro x11 x12 x13 x14 x15 x16 w z h
    rw [f_Law_law_h1566] at h
    refine ev_seg (o := 10) (nL := 22) (q := 1569) (xs := [(.iload 16, 2, 16, 0, .null), (.iconst 3, 1, 0, 0, .int 3)]) (L' := [some (.ref 0), some (.ref 2), some (.ref 93), none, some (.ref 95), none, none, none, some (.ref 98), some (.ref 99), some (.ref 100), some (.int x11), some (.int x12), some (.int x13), some (.int x14), some (.int x15), some (.int x16), none, none, none, none, none]) (st' := [.int 3, .int x16]) (w' := w) (g := []) (K := []) (by decide +kernel) rfl rfl rfl rfl jk0 ?_
    refine ev_icmp_ge (off := 178) (tgt := 1747) (by decide +kernel) (by decide) (fun c47 => ?_) (fun c47 => ?_)
    · replace h := jneg c47 h
      refine ev_seg (o := 10) (nL := 22) (q := 1557) (xs := [(.iinc 15 1, 3, 15, 0, .int 1), (.goto (-193), 3, 0, 0, .null)]) (L' := [some (.ref 0), some (.ref 2), some (.ref 93), none, some (.ref 95), none, none, none, some (.ref 98), some (.ref 99), some (.ref 100), some (.int x11), some (.int x12), some (.int x13), some (.int x14), some (.int (x15 + 1)), some (.int x16), none, none, none, none, none]) (st' := []) (w' := w) (g := []) (K := []) (by decide +kernel) rfl rfl rfl rfl jk0 ?_
      refine ev_mask [true, true, true, false, true, false, false, false, true, true, true, true, true, true, true, true, false, false, false, false, false, false] ?_
      exact hk1557 _ _ _ _ _ _ _ h
    · replace h := jpos c47 h
      refine ev_seg (o := 10) (nL := 22) (q := 1575) (xs := [(.iconst 0, 1, 0, 0, .int 0), (.istore 17, 2, 17, 0, .null)]) (L' := [some (.ref 0), some (.ref 2), some (.ref 93), none, some (.ref 95), none, none, none, some (.ref 98), some (.ref 99), some (.ref 100), some (.int x11), some (.int x12), some (.int x13), some (.int x14), some (.int x15), some (.int x16), some (.int 0), none, none, none, none]) (st' := []) (w' := w) (g := []) (K := []) (by decide +kernel) rfl rfl rfl rfl jk0 ?_
      refine ev_mask [true, true, true, false, true, false, false, false, true, true, true, true, true, true, true, true, true, true, false, false, false, false] ?_
      exact t_Law_law_h1575 hG hxs hLs hk1557 ih jfu _ _ _ _ _ _ _ _ _ h
def f_Law_law_h1557 (xs : Nat → Int32) (Ls : Nat) : Nat → Int32 → Int32 → Int32 → Int32 → Int32 → jW → Option (Int32 × jW)
  | 0, _, _, _, _, _, _ => none
  | n + 1, x11, x12, x13, x14, x15, w =>
  if x15 < 5 then
    f_Law_law_h1566 xs Ls (f_Law_law_h1557 xs Ls n) jfu x11 x12 x13 x14 x15 0 w
  else
    Option.bind (f_Count_doubt x14 x14 0 w) fun q26 =>
    if q26.1 = (-1) then
      Option.bind (f_Law_tricks x12 x11 x13 x14 q26.2) fun q27 =>
      if q27.1 = 0 then
        none
      else
        Option.bind (f_Law_shares xs Ls q27.2) fun q28 =>
        if q28.1 = 0 then
          none
        else
          some (1, q28.2)
    else
      none
set_option maxRecDepth 20000 in
set_option maxHeartbeats 40000000 in
theorem t_Law_law_h1557 {l : Launch} {G : jG} (hG : jX G) {xs : Nat → Int32} {Ls : Nat} (hxs : True) (hLs : jscr G Ls xs) : ∀ (n : Nat) (x11 : Int32) (x12 : Int32) (x13 : Int32) (x14 : Int32) (x15 : Int32) (w : jW) (z : (Int32 × jW)), f_Law_law_h1557 xs Ls n x11 x12 x13 x14 x15 w = some z → Ev l G room_1 y_Law_law (some (.int z.1), (jRx 105), z.2) 600000 7302250 99 22331 1557 [some (.ref 0), some (.ref 2), some (.ref 93), none, some (.ref 95), none, none, none, some (.ref 98), some (.ref 99), some (.ref 100), some (.int x11), some (.int x12), some (.int x13), some (.int x14), some (.int x15), none, none, none, none, none, none] [] (jRx 101) w := by
  intro n
  induction n with
  | zero => intro x11 x12 x13 x14 x15 w z h; simp only [f_Law_law_h1557] at h; cases h
  | succ n ih =>
    intro x11 x12 x13 x14 x15 w z h
    rw [f_Law_law_h1557] at h
    refine ev_seg (o := 10) (nL := 22) (q := 1560) (xs := [(.iload 15, 2, 15, 0, .null), (.iconst 5, 1, 0, 0, .int 5)]) (L' := [some (.ref 0), some (.ref 2), some (.ref 93), none, some (.ref 95), none, none, none, some (.ref 98), some (.ref 99), some (.ref 100), some (.int x11), some (.int x12), some (.int x13), some (.int x14), some (.int x15), none, none, none, none, none, none]) (st' := [.int 5, .int x15]) (w' := w) (g := []) (K := []) (by decide +kernel) rfl rfl rfl rfl jk0 ?_
    refine ev_icmp_ge (off := 193) (tgt := 1753) (by decide +kernel) (by decide) (fun c48 => ?_) (fun c48 => ?_)
    · replace h := jneg c48 h
      refine ev_seg (o := 10) (nL := 22) (q := 1759) (xs := [(.aload_n 1, 1, 1, 0, .null), (.iload 14, 2, 14, 0, .null), (.iload 14, 2, 14, 0, .null), (.iconst 0, 1, 0, 0, .int 0)]) (L' := [some (.ref 0), some (.ref 2), some (.ref 93), none, some (.ref 95), none, none, none, some (.ref 98), some (.ref 99), some (.ref 100), some (.int x11), some (.int x12), some (.int x13), some (.int x14), some (.int x15), none, none, none, none, none, none]) (st' := [.int 0, .int x14, .int x14, .ref 2]) (w' := w) (g := []) (K := []) (by decide +kernel) rfl rfl rfl rfl jk0 ?_
      obtain ⟨q26, hq26, h⟩ := jbe h
      refine ev_callV (ci := 9) (a := 2) (y2 := y_Count_doubt) (o := 10) (idx := 89) (d2 := d_Count_doubt) (n := 3) (mc2 := 0) (ms2 := 0) (As := [.int x14, .int x14, .int 0]) (st := []) (res2 := (some (.int q26.1), (jRx 101), q26.2)) (by decide +kernel) rfl lk_10_89 mo_Count_doubt mv_Count_doubt ⟨Nat.le_of_ble_eq_true rfl, Nat.le_of_ble_eq_true rfl⟩ rfl rfl (kz_2 (Nat.le_of_ble_eq_true rfl)) (by decide) rfl (Nat.le_of_ble_eq_true rfl) ⟨Nat.le_of_ble_eq_true rfl, Nat.le_of_ble_eq_true rfl⟩ hG (e_Count_doubt hG (Nat.le_of_ble_eq_true rfl) hq26) ?_
      refine ev_seg (o := 10) (nL := 22) (q := 1763) (xs := [(.iconst (-1), 1, 0, 0, .int (-1))]) (L' := [some (.ref 0), some (.ref 2), some (.ref 93), none, some (.ref 95), none, none, none, some (.ref 98), some (.ref 99), some (.ref 100), some (.int x11), some (.int x12), some (.int x13), some (.int x14), some (.int x15), none, none, none, none, none, none]) (st' := [.int (-1), .int q26.1]) (w' := q26.2) (g := []) (K := []) (by decide +kernel) rfl rfl rfl rfl jk0 ?_
      refine ev_icmp_eq (off := 5) (tgt := 1768) (by decide +kernel) (by decide) (fun c31 => ?_) (fun c31 => ?_)
      · replace h := jpos c31 h
        refine ev_seg (o := 10) (nL := 22) (q := 1786) (xs := [(.aload_n 1, 1, 1, 0, .null), (.aload 8, 2, 8, 0, .null), (.aload 9, 2, 9, 0, .null), (.iload 12, 2, 12, 0, .null), (.iload 11, 2, 11, 0, .null), (.aload_n 2, 1, 2, 0, .null), (.aload 4, 2, 4, 0, .null), (.aload 10, 2, 10, 0, .null), (.iload 13, 2, 13, 0, .null), (.iload 14, 2, 14, 0, .null)]) (L' := [some (.ref 0), some (.ref 2), some (.ref 93), none, some (.ref 95), none, none, none, some (.ref 98), some (.ref 99), some (.ref 100), some (.int x11), some (.int x12), some (.int x13), some (.int x14), some (.int x15), none, none, none, none, none, none]) (st' := [.int x14, .int x13, .ref 100, .ref 95, .ref 93, .int x11, .int x12, .ref 99, .ref 98, .ref 2]) (w' := q26.2) (g := []) (K := []) (by decide +kernel) rfl rfl rfl rfl jk0 ?_
        obtain ⟨q27, hq27, h⟩ := jbe h
        refine ev_callS (y2 := y_Law_tricks) (o := 10) (idx := 92) (d2 := d_Law_tricks) (n := 10) (mc2 := 0) (ms2 := 0) (As := [.ref 2, .ref 98, .ref 99, .int x12, .int x11, .ref 93, .ref 95, .ref 100, .int x13, .int x14]) (st := []) (res2 := (some (.int q27.1), (jRx 101), q27.2)) (by decide +kernel) rfl lk_10_92 mo_Law_tricks ms_Law_tricks ⟨Nat.le_of_ble_eq_true rfl, Nat.le_of_ble_eq_true rfl⟩ rfl rfl (Nat.le_of_ble_eq_true rfl) ⟨Nat.le_of_ble_eq_true rfl, Nat.le_of_ble_eq_true rfl⟩ hG (e_Law_tricks hG hq27) ?_
        refine ev_if_eq (off := 15) (tgt := 1804) (by decide +kernel) (by decide) (fun c30 => ?_) (fun c30 => ?_)
        · replace h := jpos c30 h
          cases h
        · replace h := jneg c30 h
          refine ev_seg (o := 10) (nL := 22) (q := 1794) (xs := [(.aload_n 1, 1, 1, 0, .null), (.aload_n 0, 1, 0, 0, .null)]) (L' := [some (.ref 0), some (.ref 2), some (.ref 93), none, some (.ref 95), none, none, none, some (.ref 98), some (.ref 99), some (.ref 100), some (.int x11), some (.int x12), some (.int x13), some (.int x14), some (.int x15), none, none, none, none, none, none]) (st' := [.ref 0, .ref 2]) (w' := q27.2) (g := []) (K := []) (by decide +kernel) rfl rfl rfl rfl jk0 ?_
          obtain ⟨q28, hq28, h⟩ := jbe h
          refine ev_callS (y2 := y_Law_shares) (o := 10) (idx := 96) (d2 := d_Law_shares) (n := 2) (mc2 := 4) (ms2 := 17) (As := [.ref 2, .ref 0]) (st := []) (res2 := (some (.int q28.1), (jRx 105), q28.2)) (by decide +kernel) rfl lk_10_96 mo_Law_shares ms_Law_shares ⟨Nat.le_of_ble_eq_true rfl, Nat.le_of_ble_eq_true rfl⟩ rfl rfl (Nat.le_of_ble_eq_true rfl) ⟨Nat.le_of_ble_eq_true rfl, Nat.le_of_ble_eq_true rfl⟩ hG (e_Law_shares hG hxs hLs hq28) ?_
          refine ev_if_eq (off := 7) (tgt := 1804) (by decide +kernel) (by decide) (fun c29 => ?_) (fun c29 => ?_)
          · replace h := jpos c29 h
            cases h
          · replace h := jneg c29 h
            refine ev_seg (o := 10) (nL := 22) (q := 1805) (xs := [(.iconst 1, 1, 0, 0, .int 1), (.goto 4, 3, 0, 0, .null)]) (L' := [some (.ref 0), some (.ref 2), some (.ref 93), none, some (.ref 95), none, none, none, some (.ref 98), some (.ref 99), some (.ref 100), some (.int x11), some (.int x12), some (.int x13), some (.int x14), some (.int x15), none, none, none, none, none, none]) (st' := [.int 1]) (w' := q28.2) (g := []) (K := []) (by decide +kernel) rfl rfl rfl rfl jk0 ?_
            cases h
            refine ev_widen (c1 := 600000) (s1 := 7302250) (by decide) (by decide) ?_
            exact ev_zret (by decide +kernel) rfl rfl rfl rfl rfl
      · replace h := jneg c31 h
        cases h
    · replace h := jpos c48 h
      refine ev_seg (o := 10) (nL := 22) (q := 1566) (xs := [(.iconst 0, 1, 0, 0, .int 0), (.istore 16, 2, 16, 0, .null)]) (L' := [some (.ref 0), some (.ref 2), some (.ref 93), none, some (.ref 95), none, none, none, some (.ref 98), some (.ref 99), some (.ref 100), some (.int x11), some (.int x12), some (.int x13), some (.int x14), some (.int x15), some (.int 0), none, none, none, none, none]) (st' := []) (w' := w) (g := []) (K := []) (by decide +kernel) rfl rfl rfl rfl jk0 ?_
      refine ev_mask [true, true, true, false, true, false, false, false, true, true, true, true, true, true, true, true, true, false, false, false, false, false] ?_
      exact t_Law_law_h1566 hG hxs hLs ih jfu _ _ _ _ _ _ _ _ h
def f_Law_law_h1497 (xs : Nat → Int32) (Ls : Nat) : Nat → Int32 → Int32 → Int32 → Int32 → Int32 → jW → Option (Int32 × jW)
  | 0, _, _, _, _, _, _ => none
  | n + 1, x11, x12, x13, x14, x15, w =>
  if x15 < x11 then
    Option.bind (f_Law_where x12 x15 x14 w) fun q49 =>
    if q49.1 < 100 then
      Option.bind (f_Law_where x12 x15 x14 q49.2) fun q50 =>
      Option.bind (f_Count_tell x15 q50.1 x14 q50.2) fun q51 =>
      if q51.1 < 0 then
        none
      else
        (f_Law_law_h1497 xs Ls n) x11 x12 x13 x14 (x15 + 1) q51.2
    else
      (f_Law_law_h1497 xs Ls n) x11 x12 x13 x14 (x15 + 1) q49.2
  else
    f_Law_law_h1557 xs Ls jfu x11 x12 x13 x14 0 w
set_option maxRecDepth 20000 in
set_option maxHeartbeats 40000000 in
theorem t_Law_law_h1497 {l : Launch} {G : jG} (hG : jX G) {xs : Nat → Int32} {Ls : Nat} (hxs : True) (hLs : jscr G Ls xs) : ∀ (n : Nat) (x11 : Int32) (x12 : Int32) (x13 : Int32) (x14 : Int32) (x15 : Int32) (w : jW) (z : (Int32 × jW)), f_Law_law_h1497 xs Ls n x11 x12 x13 x14 x15 w = some z → Ev l G room_1 y_Law_law (some (.int z.1), (jRx 105), z.2) 600000 7302250 99 22331 1497 [some (.ref 0), some (.ref 2), some (.ref 93), none, some (.ref 95), none, none, none, some (.ref 98), some (.ref 99), some (.ref 100), some (.int x11), some (.int x12), some (.int x13), some (.int x14), some (.int x15), none, none, none, none, none, none] [] (jRx 101) w := by
  intro n
  induction n with
  | zero => intro x11 x12 x13 x14 x15 w z h; simp only [f_Law_law_h1497] at h; cases h
  | succ n ih =>
    intro x11 x12 x13 x14 x15 w z h
    rw [f_Law_law_h1497] at h
    refine ev_seg (o := 10) (nL := 22) (q := 1501) (xs := [(.iload 15, 2, 15, 0, .null), (.iload 11, 2, 11, 0, .null)]) (L' := [some (.ref 0), some (.ref 2), some (.ref 93), none, some (.ref 95), none, none, none, some (.ref 98), some (.ref 99), some (.ref 100), some (.int x11), some (.int x12), some (.int x13), some (.int x14), some (.int x15), none, none, none, none, none, none]) (st' := [.int x11, .int x15]) (w' := w) (g := []) (K := []) (by decide +kernel) rfl rfl rfl rfl jk0 ?_
    refine ev_icmp_ge (off := 53) (tgt := 1554) (by decide +kernel) (by decide) (fun c54 => ?_) (fun c54 => ?_)
    · replace h := jneg c54 h
      refine ev_seg (o := 10) (nL := 22) (q := 1557) (xs := [(.iconst 0, 1, 0, 0, .int 0), (.istore 15, 2, 15, 0, .null)]) (L' := [some (.ref 0), some (.ref 2), some (.ref 93), none, some (.ref 95), none, none, none, some (.ref 98), some (.ref 99), some (.ref 100), some (.int x11), some (.int x12), some (.int x13), some (.int x14), some (.int 0), none, none, none, none, none, none]) (st' := []) (w' := w) (g := []) (K := []) (by decide +kernel) rfl rfl rfl rfl jk0 ?_
      refine ev_mask [true, true, true, false, true, false, false, false, true, true, true, true, true, true, true, true, false, false, false, false, false, false] ?_
      exact t_Law_law_h1557 hG hxs hLs jfu _ _ _ _ _ _ _ h
    · replace h := jpos c54 h
      refine ev_seg (o := 10) (nL := 22) (q := 1514) (xs := [(.aload 8, 2, 8, 0, .null), (.aload 9, 2, 9, 0, .null), (.iload 12, 2, 12, 0, .null), (.iload 15, 2, 15, 0, .null), (.iload 14, 2, 14, 0, .null)]) (L' := [some (.ref 0), some (.ref 2), some (.ref 93), none, some (.ref 95), none, none, none, some (.ref 98), some (.ref 99), some (.ref 100), some (.int x11), some (.int x12), some (.int x13), some (.int x14), some (.int x15), none, none, none, none, none, none]) (st' := [.int x14, .int x15, .int x12, .ref 99, .ref 98]) (w' := w) (g := []) (K := []) (by decide +kernel) rfl rfl rfl rfl jk0 ?_
      obtain ⟨q49, hq49, h⟩ := jbe h
      refine ev_callS (y2 := y_Law_where) (o := 10) (idx := 46) (d2 := d_Law_where) (n := 5) (mc2 := 0) (ms2 := 0) (As := [.ref 98, .ref 99, .int x12, .int x15, .int x14]) (st := []) (res2 := (some (.int q49.1), (jRx 101), q49.2)) (by decide +kernel) rfl lk_10_46 mo_Law_where ms_Law_where ⟨Nat.le_of_ble_eq_true rfl, Nat.le_of_ble_eq_true rfl⟩ rfl rfl (Nat.le_of_ble_eq_true rfl) ⟨Nat.le_of_ble_eq_true rfl, Nat.le_of_ble_eq_true rfl⟩ hG (e_Law_where hG hq49) ?_
      refine ev_seg (o := 10) (nL := 22) (q := 1519) (xs := [(.bipush 100, 2, 0, 0, .int 100)]) (L' := [some (.ref 0), some (.ref 2), some (.ref 93), none, some (.ref 95), none, none, none, some (.ref 98), some (.ref 99), some (.ref 100), some (.int x11), some (.int x12), some (.int x13), some (.int x14), some (.int x15), none, none, none, none, none, none]) (st' := [.int 100, .int q49.1]) (w' := q49.2) (g := []) (K := []) (by decide +kernel) rfl rfl rfl rfl jk0 ?_
      refine ev_icmp_ge (off := 29) (tgt := 1548) (by decide +kernel) (by decide) (fun c53 => ?_) (fun c53 => ?_)
      · replace h := jneg c53 h
        refine ev_seg (o := 10) (nL := 22) (q := 1497) (xs := [(.iinc 15 1, 3, 15, 0, .int 1), (.goto (-54), 3, 0, 0, .null)]) (L' := [some (.ref 0), some (.ref 2), some (.ref 93), none, some (.ref 95), none, none, none, some (.ref 98), some (.ref 99), some (.ref 100), some (.int x11), some (.int x12), some (.int x13), some (.int x14), some (.int (x15 + 1)), none, none, none, none, none, none]) (st' := []) (w' := q49.2) (g := []) (K := []) (by decide +kernel) rfl rfl rfl rfl jk0 ?_
        refine ev_mask [true, true, true, false, true, false, false, false, true, true, true, true, true, true, true, true, false, false, false, false, false, false] ?_
        exact ih _ _ _ _ _ _ _ h
      · replace h := jpos c53 h
        refine ev_seg (o := 10) (nL := 22) (q := 1535) (xs := [(.aload_n 1, 1, 1, 0, .null), (.iload 15, 2, 15, 0, .null), (.aload 8, 2, 8, 0, .null), (.aload 9, 2, 9, 0, .null), (.iload 12, 2, 12, 0, .null), (.iload 15, 2, 15, 0, .null), (.iload 14, 2, 14, 0, .null)]) (L' := [some (.ref 0), some (.ref 2), some (.ref 93), none, some (.ref 95), none, none, none, some (.ref 98), some (.ref 99), some (.ref 100), some (.int x11), some (.int x12), some (.int x13), some (.int x14), some (.int x15), none, none, none, none, none, none]) (st' := [.int x14, .int x15, .int x12, .ref 99, .ref 98, .int x15, .ref 2]) (w' := q49.2) (g := []) (K := []) (by decide +kernel) rfl rfl rfl rfl jk0 ?_
        obtain ⟨q50, hq50, h⟩ := jbe h
        refine ev_callS (y2 := y_Law_where) (o := 10) (idx := 46) (d2 := d_Law_where) (n := 5) (mc2 := 0) (ms2 := 0) (As := [.ref 98, .ref 99, .int x12, .int x15, .int x14]) (st := [.int x15, .ref 2]) (res2 := (some (.int q50.1), (jRx 101), q50.2)) (by decide +kernel) rfl lk_10_46 mo_Law_where ms_Law_where ⟨Nat.le_of_ble_eq_true rfl, Nat.le_of_ble_eq_true rfl⟩ rfl rfl (Nat.le_of_ble_eq_true rfl) ⟨Nat.le_of_ble_eq_true rfl, Nat.le_of_ble_eq_true rfl⟩ hG (e_Law_where hG hq50) ?_
        refine ev_seg (o := 10) (nL := 22) (q := 1540) (xs := [(.iload 14, 2, 14, 0, .null)]) (L' := [some (.ref 0), some (.ref 2), some (.ref 93), none, some (.ref 95), none, none, none, some (.ref 98), some (.ref 99), some (.ref 100), some (.int x11), some (.int x12), some (.int x13), some (.int x14), some (.int x15), none, none, none, none, none, none]) (st' := [.int x14, .int q50.1, .int x15, .ref 2]) (w' := q50.2) (g := []) (K := []) (by decide +kernel) rfl rfl rfl rfl jk0 ?_
        obtain ⟨q51, hq51, h⟩ := jbe h
        refine ev_callV (ci := 9) (a := 2) (y2 := y_Count_tell) (o := 10) (idx := 79) (d2 := d_Count_tell) (n := 3) (mc2 := 0) (ms2 := 0) (As := [.int x15, .int q50.1, .int x14]) (st := []) (res2 := (some (.int q51.1), (jRx 101), q51.2)) (by decide +kernel) rfl lk_10_79 mo_Count_tell mv_Count_tell ⟨Nat.le_of_ble_eq_true rfl, Nat.le_of_ble_eq_true rfl⟩ rfl rfl (kz_2 (Nat.le_of_ble_eq_true rfl)) (by decide) rfl (Nat.le_of_ble_eq_true rfl) ⟨Nat.le_of_ble_eq_true rfl, Nat.le_of_ble_eq_true rfl⟩ hG (e_Count_tell hG (Nat.le_of_ble_eq_true rfl) hq51) ?_
        refine ev_if_ge (off := 5) (tgt := 1548) (by decide +kernel) (by decide) (fun c52 => ?_) (fun c52 => ?_)
        · replace h := jneg c52 h
          refine ev_seg (o := 10) (nL := 22) (q := 1497) (xs := [(.iinc 15 1, 3, 15, 0, .int 1), (.goto (-54), 3, 0, 0, .null)]) (L' := [some (.ref 0), some (.ref 2), some (.ref 93), none, some (.ref 95), none, none, none, some (.ref 98), some (.ref 99), some (.ref 100), some (.int x11), some (.int x12), some (.int x13), some (.int x14), some (.int (x15 + 1)), none, none, none, none, none, none]) (st' := []) (w' := q51.2) (g := []) (K := []) (by decide +kernel) rfl rfl rfl rfl jk0 ?_
          refine ev_mask [true, true, true, false, true, false, false, false, true, true, true, true, true, true, true, true, false, false, false, false, false, false] ?_
          exact ih _ _ _ _ _ _ _ h
        · replace h := jpos c52 h
          cases h
def f_Law_law_j1477 (xs : Nat → Int32) (Ls : Nat) (k1423 : Int32 → Int32 → Int32 → Int32 → Int32 → jW → Option (Int32 × jW)) (k1441 : Int32 → Int32 → Int32 → Int32 → Int32 → Int32 → jW → Option (Int32 × jW)) (x11 : Int32) (x12 : Int32) (x13 : Int32) (x14 : Int32) (x15 : Int32) (x16 : Int32) (s0 : Int32) (s1 : Int32) (w : jW) : Option (Int32 × jW) :=
  if s1 = s0 then
    k1441 x11 x12 x13 x14 x15 (x16 + 1) w
  else
    none
set_option maxRecDepth 20000 in
set_option maxHeartbeats 40000000 in
theorem t_Law_law_j1477 {l : Launch} {G : jG} (hG : jX G) {xs : Nat → Int32} {Ls : Nat} (hxs : True) (hLs : jscr G Ls xs) {k1423 : Int32 → Int32 → Int32 → Int32 → Int32 → jW → Option (Int32 × jW)} {k1441 : Int32 → Int32 → Int32 → Int32 → Int32 → Int32 → jW → Option (Int32 × jW)} (hk1423 : ∀ (x11 : Int32) (x12 : Int32) (x13 : Int32) (x14 : Int32) (x15 : Int32) (w : jW) (z : (Int32 × jW)), k1423 x11 x12 x13 x14 x15 w = some z → Ev l G room_1 y_Law_law (some (.int z.1), (jRx 105), z.2) 600000 7302250 99 22331 1423 [some (.ref 0), some (.ref 2), some (.ref 93), none, some (.ref 95), none, none, none, some (.ref 98), some (.ref 99), some (.ref 100), some (.int x11), some (.int x12), some (.int x13), some (.int x14), some (.int x15), none, none, none, none, none, none] [] (jRx 101) w) (hk1441 : ∀ (x11 : Int32) (x12 : Int32) (x13 : Int32) (x14 : Int32) (x15 : Int32) (x16 : Int32) (w : jW) (z : (Int32 × jW)), k1441 x11 x12 x13 x14 x15 x16 w = some z → Ev l G room_1 y_Law_law (some (.int z.1), (jRx 105), z.2) 600000 7302250 99 22331 1441 [some (.ref 0), some (.ref 2), some (.ref 93), none, some (.ref 95), none, none, none, some (.ref 98), some (.ref 99), some (.ref 100), some (.int x11), some (.int x12), some (.int x13), some (.int x14), some (.int x15), some (.int x16), none, none, none, none, none] [] (jRx 101) w) {x11 : Int32} {x12 : Int32} {x13 : Int32} {x14 : Int32} {x15 : Int32} {x16 : Int32} {s0 : Int32} {s1 : Int32} {w : jW} {z : (Int32 × jW)} (h : f_Law_law_j1477 xs Ls k1423 k1441 x11 x12 x13 x14 x15 x16 s0 s1 w = some z) : Ev l G room_1 y_Law_law (some (.int z.1), (jRx 105), z.2) 600000 7302250 99 22331 1477 [some (.ref 0), some (.ref 2), some (.ref 93), none, some (.ref 95), none, none, none, some (.ref 98), some (.ref 99), some (.ref 100), some (.int x11), some (.int x12), some (.int x13), some (.int x14), some (.int x15), some (.int x16), none, none, none, none, none] [.int s0, .int s1] (jRx 101) w := by
  rw [f_Law_law_j1477] at h
  refine ev_icmp_eq (off := 5) (tgt := 1482) (by decide +kernel) (by decide) (fun c58 => ?_) (fun c58 => ?_)
  · replace h := jpos c58 h
    refine ev_seg (o := 10) (nL := 22) (q := 1441) (xs := [(.iinc 16 1, 3, 16, 0, .int 1), (.goto (-44), 3, 0, 0, .null)]) (L' := [some (.ref 0), some (.ref 2), some (.ref 93), none, some (.ref 95), none, none, none, some (.ref 98), some (.ref 99), some (.ref 100), some (.int x11), some (.int x12), some (.int x13), some (.int x14), some (.int x15), some (.int (x16 + 1)), none, none, none, none, none]) (st' := []) (w' := w) (g := []) (K := []) (by decide +kernel) rfl rfl rfl rfl jk0 ?_
    refine ev_mask [true, true, true, false, true, false, false, false, true, true, true, true, true, true, true, true, true, false, false, false, false, false] ?_
    exact hk1441 _ _ _ _ _ _ _ _ h
  · replace h := jneg c58 h
    cases h
def f_Law_law_h1441 (xs : Nat → Int32) (Ls : Nat) (k1423 : Int32 → Int32 → Int32 → Int32 → Int32 → jW → Option (Int32 × jW)) : Nat → Int32 → Int32 → Int32 → Int32 → Int32 → Int32 → jW → Option (Int32 × jW)
  | 0, _, _, _, _, _, _, _ => none
  | n + 1, x11, x12, x13, x14, x15, x16, w =>
  if x16 ≤ x14 then
    Option.bind (f_Count_whole x15 x16 w) fun q56 =>
    Option.bind (f_Law_whole x15 x12 x16 q56.2) fun q57 =>
    if q57.1 = 0 then
      f_Law_law_j1477 xs Ls k1423 (f_Law_law_h1441 xs Ls k1423 n) x11 x12 x13 x14 x15 x16 0 q56.1 q57.2
    else
      f_Law_law_j1477 xs Ls k1423 (f_Law_law_h1441 xs Ls k1423 n) x11 x12 x13 x14 x15 x16 1 q56.1 q57.2
  else
    k1423 x11 x12 x13 x14 (x15 + 1) w
set_option maxRecDepth 20000 in
set_option maxHeartbeats 40000000 in
theorem t_Law_law_h1441 {l : Launch} {G : jG} (hG : jX G) {xs : Nat → Int32} {Ls : Nat} (hxs : True) (hLs : jscr G Ls xs) {k1423 : Int32 → Int32 → Int32 → Int32 → Int32 → jW → Option (Int32 × jW)} (hk1423 : ∀ (x11 : Int32) (x12 : Int32) (x13 : Int32) (x14 : Int32) (x15 : Int32) (w : jW) (z : (Int32 × jW)), k1423 x11 x12 x13 x14 x15 w = some z → Ev l G room_1 y_Law_law (some (.int z.1), (jRx 105), z.2) 600000 7302250 99 22331 1423 [some (.ref 0), some (.ref 2), some (.ref 93), none, some (.ref 95), none, none, none, some (.ref 98), some (.ref 99), some (.ref 100), some (.int x11), some (.int x12), some (.int x13), some (.int x14), some (.int x15), none, none, none, none, none, none] [] (jRx 101) w) : ∀ (n : Nat) (x11 : Int32) (x12 : Int32) (x13 : Int32) (x14 : Int32) (x15 : Int32) (x16 : Int32) (w : jW) (z : (Int32 × jW)), f_Law_law_h1441 xs Ls k1423 n x11 x12 x13 x14 x15 x16 w = some z → Ev l G room_1 y_Law_law (some (.int z.1), (jRx 105), z.2) 600000 7302250 99 22331 1441 [some (.ref 0), some (.ref 2), some (.ref 93), none, some (.ref 95), none, none, none, some (.ref 98), some (.ref 99), some (.ref 100), some (.int x11), some (.int x12), some (.int x13), some (.int x14), some (.int x15), some (.int x16), none, none, none, none, none] [] (jRx 101) w := by
  intro n
  induction n with
  | zero => intro x11 x12 x13 x14 x15 x16 w z h; simp only [f_Law_law_h1441] at h; cases h
  | succ n ih =>
    intro x11 x12 x13 x14 x15 x16 w z h
    rw [f_Law_law_h1441] at h
    refine ev_seg (o := 10) (nL := 22) (q := 1445) (xs := [(.iload 16, 2, 16, 0, .null), (.iload 14, 2, 14, 0, .null)]) (L' := [some (.ref 0), some (.ref 2), some (.ref 93), none, some (.ref 95), none, none, none, some (.ref 98), some (.ref 99), some (.ref 100), some (.int x11), some (.int x12), some (.int x13), some (.int x14), some (.int x15), some (.int x16), none, none, none, none, none]) (st' := [.int x14, .int x16]) (w' := w) (g := []) (K := []) (by decide +kernel) rfl rfl rfl rfl jk0 ?_
    refine ev_icmp_gt (off := 43) (tgt := 1488) (by decide +kernel) (by decide) (fun c60 => ?_) (fun c60 => ?_)
    · replace h := jneg c60 h
      refine ev_seg (o := 10) (nL := 22) (q := 1423) (xs := [(.iinc 15 1, 3, 15, 0, .int 1), (.goto (-68), 3, 0, 0, .null)]) (L' := [some (.ref 0), some (.ref 2), some (.ref 93), none, some (.ref 95), none, none, none, some (.ref 98), some (.ref 99), some (.ref 100), some (.int x11), some (.int x12), some (.int x13), some (.int x14), some (.int (x15 + 1)), some (.int x16), none, none, none, none, none]) (st' := []) (w' := w) (g := []) (K := []) (by decide +kernel) rfl rfl rfl rfl jk0 ?_
      refine ev_mask [true, true, true, false, true, false, false, false, true, true, true, true, true, true, true, true, false, false, false, false, false, false] ?_
      exact hk1423 _ _ _ _ _ _ _ h
    · replace h := jpos c60 h
      refine ev_seg (o := 10) (nL := 22) (q := 1453) (xs := [(.aload_n 1, 1, 1, 0, .null), (.iload 15, 2, 15, 0, .null), (.iload 16, 2, 16, 0, .null)]) (L' := [some (.ref 0), some (.ref 2), some (.ref 93), none, some (.ref 95), none, none, none, some (.ref 98), some (.ref 99), some (.ref 100), some (.int x11), some (.int x12), some (.int x13), some (.int x14), some (.int x15), some (.int x16), none, none, none, none, none]) (st' := [.int x16, .int x15, .ref 2]) (w' := w) (g := []) (K := []) (by decide +kernel) rfl rfl rfl rfl jk0 ?_
      obtain ⟨q56, hq56, h⟩ := jbe h
      refine ev_callV (ci := 9) (a := 2) (y2 := y_Count_whole) (o := 10) (idx := 77) (d2 := d_Count_whole) (n := 2) (mc2 := 0) (ms2 := 0) (As := [.int x15, .int x16]) (st := []) (res2 := (some (.int q56.1), (jRx 101), q56.2)) (by decide +kernel) rfl lk_10_77 mo_Count_whole mv_Count_whole ⟨Nat.le_of_ble_eq_true rfl, Nat.le_of_ble_eq_true rfl⟩ rfl rfl (kz_2 (Nat.le_of_ble_eq_true rfl)) (by decide) rfl (Nat.le_of_ble_eq_true rfl) ⟨Nat.le_of_ble_eq_true rfl, Nat.le_of_ble_eq_true rfl⟩ hG (e_Count_whole hG (Nat.le_of_ble_eq_true rfl) hq56) ?_
      refine ev_seg (o := 10) (nL := 22) (q := 1466) (xs := [(.aload 10, 2, 10, 0, .null), (.iload 15, 2, 15, 0, .null), (.aload 9, 2, 9, 0, .null), (.iload 12, 2, 12, 0, .null), (.iload 16, 2, 16, 0, .null)]) (L' := [some (.ref 0), some (.ref 2), some (.ref 93), none, some (.ref 95), none, none, none, some (.ref 98), some (.ref 99), some (.ref 100), some (.int x11), some (.int x12), some (.int x13), some (.int x14), some (.int x15), some (.int x16), none, none, none, none, none]) (st' := [.int x16, .int x12, .ref 99, .int x15, .ref 100, .int q56.1]) (w' := q56.2) (g := []) (K := []) (by decide +kernel) rfl rfl rfl rfl jk0 ?_
      obtain ⟨q57, hq57, h⟩ := jbe h
      refine ev_callS (y2 := y_Law_whole) (o := 10) (idx := 59) (d2 := d_Law_whole) (n := 5) (mc2 := 0) (ms2 := 0) (As := [.ref 100, .int x15, .ref 99, .int x12, .int x16]) (st := [.int q56.1]) (res2 := (some (.int q57.1), (jRx 101), q57.2)) (by decide +kernel) rfl lk_10_59 mo_Law_whole ms_Law_whole ⟨Nat.le_of_ble_eq_true rfl, Nat.le_of_ble_eq_true rfl⟩ rfl rfl (Nat.le_of_ble_eq_true rfl) ⟨Nat.le_of_ble_eq_true rfl, Nat.le_of_ble_eq_true rfl⟩ hG (e_Law_whole hG hq57) ?_
      refine ev_if_eq (off := 7) (tgt := 1476) (by decide +kernel) (by decide) (fun c59 => ?_) (fun c59 => ?_)
      · replace h := jpos c59 h
        refine ev_seg (o := 10) (nL := 22) (q := 1477) (xs := [(.iconst 0, 1, 0, 0, .int 0)]) (L' := [some (.ref 0), some (.ref 2), some (.ref 93), none, some (.ref 95), none, none, none, some (.ref 98), some (.ref 99), some (.ref 100), some (.int x11), some (.int x12), some (.int x13), some (.int x14), some (.int x15), some (.int x16), none, none, none, none, none]) (st' := [.int 0, .int q56.1]) (w' := q57.2) (g := []) (K := []) (by decide +kernel) rfl rfl rfl rfl jk0 ?_
        refine ev_mask [true, true, true, false, true, false, false, false, true, true, true, true, true, true, true, true, true, false, false, false, false, false] ?_
        exact t_Law_law_j1477 hG hxs hLs hk1423 ih h
      · replace h := jneg c59 h
        refine ev_seg (o := 10) (nL := 22) (q := 1477) (xs := [(.iconst 1, 1, 0, 0, .int 1), (.goto 4, 3, 0, 0, .null)]) (L' := [some (.ref 0), some (.ref 2), some (.ref 93), none, some (.ref 95), none, none, none, some (.ref 98), some (.ref 99), some (.ref 100), some (.int x11), some (.int x12), some (.int x13), some (.int x14), some (.int x15), some (.int x16), none, none, none, none, none]) (st' := [.int 1, .int q56.1]) (w' := q57.2) (g := []) (K := []) (by decide +kernel) rfl rfl rfl rfl jk0 ?_
        refine ev_mask [true, true, true, false, true, false, false, false, true, true, true, true, true, true, true, true, true, false, false, false, false, false] ?_
        exact t_Law_law_j1477 hG hxs hLs hk1423 ih h
def f_Law_law_h1423 (xs : Nat → Int32) (Ls : Nat) : Nat → Int32 → Int32 → Int32 → Int32 → Int32 → jW → Option (Int32 × jW)
  | 0, _, _, _, _, _, _ => none
  | n + 1, x11, x12, x13, x14, x15, w =>
  if x15 < x13 then
    if jal [jin ((2 * x15) + 1) 16] = true then
    f_Law_law_h1441 xs Ls (f_Law_law_h1423 xs Ls n) jfu x11 x12 x13 x14 x15 (w.1 100 (Int32.toNatClampNeg ((2 * x15) + 1))) w
    else none
  else
    f_Law_law_h1497 xs Ls jfu x11 x12 x13 x14 0 w
set_option maxRecDepth 20000 in
set_option maxHeartbeats 40000000 in
theorem t_Law_law_h1423 {l : Launch} {G : jG} (hG : jX G) {xs : Nat → Int32} {Ls : Nat} (hxs : True) (hLs : jscr G Ls xs) : ∀ (n : Nat) (x11 : Int32) (x12 : Int32) (x13 : Int32) (x14 : Int32) (x15 : Int32) (w : jW) (z : (Int32 × jW)), f_Law_law_h1423 xs Ls n x11 x12 x13 x14 x15 w = some z → Ev l G room_1 y_Law_law (some (.int z.1), (jRx 105), z.2) 600000 7302250 99 22331 1423 [some (.ref 0), some (.ref 2), some (.ref 93), none, some (.ref 95), none, none, none, some (.ref 98), some (.ref 99), some (.ref 100), some (.int x11), some (.int x12), some (.int x13), some (.int x14), some (.int x15), none, none, none, none, none, none] [] (jRx 101) w := by
  intro n
  induction n with
  | zero => intro x11 x12 x13 x14 x15 w z h; simp only [f_Law_law_h1423] at h; cases h
  | succ n ih =>
    intro x11 x12 x13 x14 x15 w z h
    rw [f_Law_law_h1423] at h
    refine ev_seg (o := 10) (nL := 22) (q := 1427) (xs := [(.iload 15, 2, 15, 0, .null), (.iload 13, 2, 13, 0, .null)]) (L' := [some (.ref 0), some (.ref 2), some (.ref 93), none, some (.ref 95), none, none, none, some (.ref 98), some (.ref 99), some (.ref 100), some (.int x11), some (.int x12), some (.int x13), some (.int x14), some (.int x15), none, none, none, none, none, none]) (st' := [.int x13, .int x15]) (w' := w) (g := []) (K := []) (by decide +kernel) rfl rfl rfl rfl jk0 ?_
    refine ev_icmp_ge (off := 67) (tgt := 1494) (by decide +kernel) (by decide) (fun c61 => ?_) (fun c61 => ?_)
    · replace h := jneg c61 h
      refine ev_seg (o := 10) (nL := 22) (q := 1497) (xs := [(.iconst 0, 1, 0, 0, .int 0), (.istore 15, 2, 15, 0, .null)]) (L' := [some (.ref 0), some (.ref 2), some (.ref 93), none, some (.ref 95), none, none, none, some (.ref 98), some (.ref 99), some (.ref 100), some (.int x11), some (.int x12), some (.int x13), some (.int x14), some (.int 0), none, none, none, none, none, none]) (st' := []) (w' := w) (g := []) (K := []) (by decide +kernel) rfl rfl rfl rfl jk0 ?_
      refine ev_mask [true, true, true, false, true, false, false, false, true, true, true, true, true, true, true, true, false, false, false, false, false, false] ?_
      exact t_Law_law_h1497 hG hxs hLs jfu _ _ _ _ _ _ _ h
    · replace h := jpos c61 h
      obtain ⟨hg55, h⟩ := jgd h
      refine ev_seg (o := 10) (nL := 22) (q := 1441) (xs := [(.aload 10, 2, 10, 0, .null), (.iconst 2, 1, 0, 0, .int 2), (.iload 15, 2, 15, 0, .null), (.imul, 1, 0, 0, .null), (.iconst 1, 1, 0, 0, .int 1), (.iadd, 1, 0, 0, .null), (.iaload, 1, 0, 0, .null), (.istore 16, 2, 16, 0, .null)]) (L' := [some (.ref 0), some (.ref 2), some (.ref 93), none, some (.ref 95), none, none, none, some (.ref 98), some (.ref 99), some (.ref 100), some (.int x11), some (.int x12), some (.int x13), some (.int x14), some (.int x15), some (.int (w.1 100 (Int32.toNatClampNeg ((2 * x15) + 1)))), none, none, none, none, none]) (st' := []) (w' := w) (g := [jin ((2 * x15) + 1) 16]) (K := [(100, 20)]) (by decide +kernel) rfl rfl rfl hg55 (jk1 (rfl) jk0) ?_
      refine ev_mask [true, true, true, false, true, false, false, false, true, true, true, true, true, true, true, true, true, false, false, false, false, false] ?_
      exact t_Law_law_h1441 hG hxs hLs ih jfu _ _ _ _ _ _ _ _ h
def f_Law_law_h1372 (xs : Nat → Int32) (Ls : Nat) (k1362 : Int32 → Int32 → Int32 → Int32 → Int32 → jW → Option (Int32 × jW)) : Nat → Int32 → Int32 → Int32 → Int32 → Int32 → Int32 → jW → Option (Int32 × jW)
  | 0, _, _, _, _, _, _, _ => none
  | n + 1, x11, x12, x13, x14, x15, x16, w =>
  if x16 ≤ (x14 + 9) then
    Option.bind (f_Count_where x15 x16 w) fun q62 =>
    Option.bind (f_Law_where x12 x15 x16 q62.2) fun q63 =>
    if q62.1 = q63.1 then
      (f_Law_law_h1372 xs Ls k1362 n) x11 x12 x13 x14 x15 (x16 + 1) q63.2
    else
      none
  else
    k1362 x11 x12 x13 x14 (x15 + 1) w
set_option maxRecDepth 20000 in
set_option maxHeartbeats 40000000 in
theorem t_Law_law_h1372 {l : Launch} {G : jG} (hG : jX G) {xs : Nat → Int32} {Ls : Nat} (hxs : True) (hLs : jscr G Ls xs) {k1362 : Int32 → Int32 → Int32 → Int32 → Int32 → jW → Option (Int32 × jW)} (hk1362 : ∀ (x11 : Int32) (x12 : Int32) (x13 : Int32) (x14 : Int32) (x15 : Int32) (w : jW) (z : (Int32 × jW)), k1362 x11 x12 x13 x14 x15 w = some z → Ev l G room_1 y_Law_law (some (.int z.1), (jRx 105), z.2) 600000 7302250 99 22331 1362 [some (.ref 0), some (.ref 2), some (.ref 93), none, some (.ref 95), none, none, none, some (.ref 98), some (.ref 99), some (.ref 100), some (.int x11), some (.int x12), some (.int x13), some (.int x14), some (.int x15), none, none, none, none, none, none] [] (jRx 101) w) : ∀ (n : Nat) (x11 : Int32) (x12 : Int32) (x13 : Int32) (x14 : Int32) (x15 : Int32) (x16 : Int32) (w : jW) (z : (Int32 × jW)), f_Law_law_h1372 xs Ls k1362 n x11 x12 x13 x14 x15 x16 w = some z → Ev l G room_1 y_Law_law (some (.int z.1), (jRx 105), z.2) 600000 7302250 99 22331 1372 [some (.ref 0), some (.ref 2), some (.ref 93), none, some (.ref 95), none, none, none, some (.ref 98), some (.ref 99), some (.ref 100), some (.int x11), some (.int x12), some (.int x13), some (.int x14), some (.int x15), some (.int x16), none, none, none, none, none] [] (jRx 101) w := by
  intro n
  induction n with
  | zero => intro x11 x12 x13 x14 x15 x16 w z h; simp only [f_Law_law_h1372] at h; cases h
  | succ n ih =>
    intro x11 x12 x13 x14 x15 x16 w z h
    rw [f_Law_law_h1372] at h
    refine ev_seg (o := 10) (nL := 22) (q := 1379) (xs := [(.iload 16, 2, 16, 0, .null), (.iload 14, 2, 14, 0, .null), (.bipush 9, 2, 0, 0, .int 9), (.iadd, 1, 0, 0, .null)]) (L' := [some (.ref 0), some (.ref 2), some (.ref 93), none, some (.ref 95), none, none, none, some (.ref 98), some (.ref 99), some (.ref 100), some (.int x11), some (.int x12), some (.int x13), some (.int x14), some (.int x15), some (.int x16), none, none, none, none, none]) (st' := [.int (x14 + 9), .int x16]) (w' := w) (g := []) (K := []) (by decide +kernel) rfl rfl rfl rfl jk0 ?_
    refine ev_icmp_gt (off := 35) (tgt := 1414) (by decide +kernel) (by decide) (fun c65 => ?_) (fun c65 => ?_)
    · replace h := jneg c65 h
      refine ev_seg (o := 10) (nL := 22) (q := 1362) (xs := [(.iinc 15 1, 3, 15, 0, .int 1), (.goto (-55), 3, 0, 0, .null)]) (L' := [some (.ref 0), some (.ref 2), some (.ref 93), none, some (.ref 95), none, none, none, some (.ref 98), some (.ref 99), some (.ref 100), some (.int x11), some (.int x12), some (.int x13), some (.int x14), some (.int (x15 + 1)), some (.int x16), none, none, none, none, none]) (st' := []) (w' := w) (g := []) (K := []) (by decide +kernel) rfl rfl rfl rfl jk0 ?_
      refine ev_mask [true, true, true, false, true, false, false, false, true, true, true, true, true, true, true, true, false, false, false, false, false, false] ?_
      exact hk1362 _ _ _ _ _ _ _ h
    · replace h := jpos c65 h
      refine ev_seg (o := 10) (nL := 22) (q := 1387) (xs := [(.aload_n 1, 1, 1, 0, .null), (.iload 15, 2, 15, 0, .null), (.iload 16, 2, 16, 0, .null)]) (L' := [some (.ref 0), some (.ref 2), some (.ref 93), none, some (.ref 95), none, none, none, some (.ref 98), some (.ref 99), some (.ref 100), some (.int x11), some (.int x12), some (.int x13), some (.int x14), some (.int x15), some (.int x16), none, none, none, none, none]) (st' := [.int x16, .int x15, .ref 2]) (w' := w) (g := []) (K := []) (by decide +kernel) rfl rfl rfl rfl jk0 ?_
      obtain ⟨q62, hq62, h⟩ := jbe h
      refine ev_callV (ci := 9) (a := 2) (y2 := y_Count_where) (o := 10) (idx := 75) (d2 := d_Count_where) (n := 2) (mc2 := 0) (ms2 := 0) (As := [.int x15, .int x16]) (st := []) (res2 := (some (.int q62.1), (jRx 101), q62.2)) (by decide +kernel) rfl lk_10_75 mo_Count_where mv_Count_where ⟨Nat.le_of_ble_eq_true rfl, Nat.le_of_ble_eq_true rfl⟩ rfl rfl (kz_2 (Nat.le_of_ble_eq_true rfl)) (by decide) rfl (Nat.le_of_ble_eq_true rfl) ⟨Nat.le_of_ble_eq_true rfl, Nat.le_of_ble_eq_true rfl⟩ hG (e_Count_where hG (Nat.le_of_ble_eq_true rfl) hq62) ?_
      refine ev_seg (o := 10) (nL := 22) (q := 1400) (xs := [(.aload 8, 2, 8, 0, .null), (.aload 9, 2, 9, 0, .null), (.iload 12, 2, 12, 0, .null), (.iload 15, 2, 15, 0, .null), (.iload 16, 2, 16, 0, .null)]) (L' := [some (.ref 0), some (.ref 2), some (.ref 93), none, some (.ref 95), none, none, none, some (.ref 98), some (.ref 99), some (.ref 100), some (.int x11), some (.int x12), some (.int x13), some (.int x14), some (.int x15), some (.int x16), none, none, none, none, none]) (st' := [.int x16, .int x15, .int x12, .ref 99, .ref 98, .int q62.1]) (w' := q62.2) (g := []) (K := []) (by decide +kernel) rfl rfl rfl rfl jk0 ?_
      obtain ⟨q63, hq63, h⟩ := jbe h
      refine ev_callS (y2 := y_Law_where) (o := 10) (idx := 46) (d2 := d_Law_where) (n := 5) (mc2 := 0) (ms2 := 0) (As := [.ref 98, .ref 99, .int x12, .int x15, .int x16]) (st := [.int q62.1]) (res2 := (some (.int q63.1), (jRx 101), q63.2)) (by decide +kernel) rfl lk_10_46 mo_Law_where ms_Law_where ⟨Nat.le_of_ble_eq_true rfl, Nat.le_of_ble_eq_true rfl⟩ rfl rfl (Nat.le_of_ble_eq_true rfl) ⟨Nat.le_of_ble_eq_true rfl, Nat.le_of_ble_eq_true rfl⟩ hG (e_Law_where hG hq63) ?_
      refine ev_icmp_eq (off := 5) (tgt := 1408) (by decide +kernel) (by decide) (fun c64 => ?_) (fun c64 => ?_)
      · replace h := jpos c64 h
        refine ev_seg (o := 10) (nL := 22) (q := 1372) (xs := [(.iinc 16 1, 3, 16, 0, .int 1), (.goto (-39), 3, 0, 0, .null)]) (L' := [some (.ref 0), some (.ref 2), some (.ref 93), none, some (.ref 95), none, none, none, some (.ref 98), some (.ref 99), some (.ref 100), some (.int x11), some (.int x12), some (.int x13), some (.int x14), some (.int x15), some (.int (x16 + 1)), none, none, none, none, none]) (st' := []) (w' := q63.2) (g := []) (K := []) (by decide +kernel) rfl rfl rfl rfl jk0 ?_
        refine ev_mask [true, true, true, false, true, false, false, false, true, true, true, true, true, true, true, true, true, false, false, false, false, false] ?_
        exact ih _ _ _ _ _ _ _ _ h
      · replace h := jneg c64 h
        cases h
def f_Law_law_h1362 (xs : Nat → Int32) (Ls : Nat) : Nat → Int32 → Int32 → Int32 → Int32 → Int32 → jW → Option (Int32 × jW)
  | 0, _, _, _, _, _, _ => none
  | n + 1, x11, x12, x13, x14, x15, w =>
  if x15 < x11 then
    f_Law_law_h1372 xs Ls (f_Law_law_h1362 xs Ls n) jfu x11 x12 x13 x14 x15 0 w
  else
    f_Law_law_h1423 xs Ls jfu x11 x12 x13 x14 0 w
set_option maxRecDepth 20000 in
set_option maxHeartbeats 40000000 in
theorem t_Law_law_h1362 {l : Launch} {G : jG} (hG : jX G) {xs : Nat → Int32} {Ls : Nat} (hxs : True) (hLs : jscr G Ls xs) : ∀ (n : Nat) (x11 : Int32) (x12 : Int32) (x13 : Int32) (x14 : Int32) (x15 : Int32) (w : jW) (z : (Int32 × jW)), f_Law_law_h1362 xs Ls n x11 x12 x13 x14 x15 w = some z → Ev l G room_1 y_Law_law (some (.int z.1), (jRx 105), z.2) 600000 7302250 99 22331 1362 [some (.ref 0), some (.ref 2), some (.ref 93), none, some (.ref 95), none, none, none, some (.ref 98), some (.ref 99), some (.ref 100), some (.int x11), some (.int x12), some (.int x13), some (.int x14), some (.int x15), none, none, none, none, none, none] [] (jRx 101) w := by
  intro n
  induction n with
  | zero => intro x11 x12 x13 x14 x15 w z h; simp only [f_Law_law_h1362] at h; cases h
  | succ n ih =>
    intro x11 x12 x13 x14 x15 w z h
    rw [f_Law_law_h1362] at h
    refine ev_seg (o := 10) (nL := 22) (q := 1366) (xs := [(.iload 15, 2, 15, 0, .null), (.iload 11, 2, 11, 0, .null)]) (L' := [some (.ref 0), some (.ref 2), some (.ref 93), none, some (.ref 95), none, none, none, some (.ref 98), some (.ref 99), some (.ref 100), some (.int x11), some (.int x12), some (.int x13), some (.int x14), some (.int x15), none, none, none, none, none, none]) (st' := [.int x11, .int x15]) (w' := w) (g := []) (K := []) (by decide +kernel) rfl rfl rfl rfl jk0 ?_
    refine ev_icmp_ge (off := 54) (tgt := 1420) (by decide +kernel) (by decide) (fun c66 => ?_) (fun c66 => ?_)
    · replace h := jneg c66 h
      refine ev_seg (o := 10) (nL := 22) (q := 1423) (xs := [(.iconst 0, 1, 0, 0, .int 0), (.istore 15, 2, 15, 0, .null)]) (L' := [some (.ref 0), some (.ref 2), some (.ref 93), none, some (.ref 95), none, none, none, some (.ref 98), some (.ref 99), some (.ref 100), some (.int x11), some (.int x12), some (.int x13), some (.int x14), some (.int 0), none, none, none, none, none, none]) (st' := []) (w' := w) (g := []) (K := []) (by decide +kernel) rfl rfl rfl rfl jk0 ?_
      refine ev_mask [true, true, true, false, true, false, false, false, true, true, true, true, true, true, true, true, false, false, false, false, false, false] ?_
      exact t_Law_law_h1423 hG hxs hLs jfu _ _ _ _ _ _ _ h
    · replace h := jpos c66 h
      refine ev_seg (o := 10) (nL := 22) (q := 1372) (xs := [(.iconst 0, 1, 0, 0, .int 0), (.istore 16, 2, 16, 0, .null)]) (L' := [some (.ref 0), some (.ref 2), some (.ref 93), none, some (.ref 95), none, none, none, some (.ref 98), some (.ref 99), some (.ref 100), some (.int x11), some (.int x12), some (.int x13), some (.int x14), some (.int x15), some (.int 0), none, none, none, none, none]) (st' := []) (w' := w) (g := []) (K := []) (by decide +kernel) rfl rfl rfl rfl jk0 ?_
      refine ev_mask [true, true, true, false, true, false, false, false, true, true, true, true, true, true, true, true, true, false, false, false, false, false] ?_
      exact t_Law_law_h1372 hG hxs hLs ih jfu _ _ _ _ _ _ _ _ h
def f_Law_law_j790 (xs : Nat → Int32) (Ls : Nat) (k573 : Int32 → Int32 → Int32 → Int32 → jW → Option (Int32 × jW)) (x11 : Int32) (x12 : Int32) (x13 : Int32) (x14 : Int32) (x16 : Int32) (x17 : Int32) (x19 : Int32) (x20 : Int32) (s0 : Int32) (s1 : Int32) (w : jW) : Option (Int32 × jW) :=
  if s1 = s0 then
    if x20 = 0 then
      k573 x11 x12 x13 (x14 + 1) w
    else
      if jal [jin (4 * x11) 32] = true then
      jlw ((jup w.1 98 (Int32.toNatClampNeg (4 * x11)) x17), w.2) fun w78 =>
      if jal [jin ((4 * x11) + 1) 32] = true then
      jlw ((jup w78.1 98 (Int32.toNatClampNeg ((4 * x11) + 1)) x16), w78.2) fun w80 =>
      if jal [jin ((4 * x11) + 2) 32] = true then
      jlw ((jup w80.1 98 (Int32.toNatClampNeg ((4 * x11) + 2)) x19), w80.2) fun w82 =>
      if jal [jin ((4 * x11) + 3) 32] = true then
      jlw ((jup w82.1 98 (Int32.toNatClampNeg ((4 * x11) + 3)) (-1)), w82.2) fun w84 =>
      k573 (x11 + 1) x12 x13 (x14 + 1) w84
      else none else none else none else none
  else
    none
set_option maxRecDepth 20000 in
set_option maxHeartbeats 40000000 in
theorem t_Law_law_j790 {l : Launch} {G : jG} (hG : jX G) {xs : Nat → Int32} {Ls : Nat} (hxs : True) (hLs : jscr G Ls xs) {k573 : Int32 → Int32 → Int32 → Int32 → jW → Option (Int32 × jW)} (hk573 : ∀ (x11 : Int32) (x12 : Int32) (x13 : Int32) (x14 : Int32) (w : jW) (z : (Int32 × jW)), k573 x11 x12 x13 x14 w = some z → Ev l G room_1 y_Law_law (some (.int z.1), (jRx 105), z.2) 600000 7302250 99 22331 573 [some (.ref 0), some (.ref 2), some (.ref 93), some (.ref 94), some (.ref 95), none, some (.ref 96), some (.ref 97), some (.ref 98), some (.ref 99), some (.ref 100), some (.int x11), some (.int x12), some (.int x13), some (.int x14), none, none, none, none, none, none, none] [] (jRx 101) w) {x11 : Int32} {x12 : Int32} {x13 : Int32} {x14 : Int32} {x16 : Int32} {x17 : Int32} {x19 : Int32} {x20 : Int32} {s0 : Int32} {s1 : Int32} {w : jW} {z : (Int32 × jW)} (h : f_Law_law_j790 xs Ls k573 x11 x12 x13 x14 x16 x17 x19 x20 s0 s1 w = some z) : Ev l G room_1 y_Law_law (some (.int z.1), (jRx 105), z.2) 600000 7302250 99 22331 790 [some (.ref 0), some (.ref 2), some (.ref 93), some (.ref 94), some (.ref 95), none, some (.ref 96), some (.ref 97), some (.ref 98), some (.ref 99), some (.ref 100), some (.int x11), some (.int x12), some (.int x13), some (.int x14), none, some (.int x16), some (.int x17), none, some (.int x19), some (.int x20), none] [.int s0, .int s1] (jRx 101) w := by
  rw [f_Law_law_j790] at h
  refine ev_icmp_eq (off := 5) (tgt := 795) (by decide +kernel) (by decide) (fun c86 => ?_) (fun c86 => ?_)
  · replace h := jpos c86 h
    refine ev_seg (o := 10) (nL := 22) (q := 797) (xs := [(.iload 20, 2, 20, 0, .null)]) (L' := [some (.ref 0), some (.ref 2), some (.ref 93), some (.ref 94), some (.ref 95), none, some (.ref 96), some (.ref 97), some (.ref 98), some (.ref 99), some (.ref 100), some (.int x11), some (.int x12), some (.int x13), some (.int x14), none, some (.int x16), some (.int x17), none, some (.int x19), some (.int x20), none]) (st' := [.int x20]) (w' := w) (g := []) (K := []) (by decide +kernel) rfl rfl rfl rfl jk0 ?_
    refine ev_if_ne (off := 6) (tgt := 803) (by decide +kernel) (by decide) (fun c85 => ?_) (fun c85 => ?_)
    · replace h := jneg c85 h
      obtain ⟨hg77, h⟩ := jgd h
      refine ev_seg (o := 10) (nL := 22) (q := 812) (xs := [(.aload 8, 2, 8, 0, .null), (.iconst 4, 1, 0, 0, .int 4), (.iload 11, 2, 11, 0, .null), (.imul, 1, 0, 0, .null), (.iload 17, 2, 17, 0, .null), (.iastore, 1, 0, 0, .null)]) (L' := [some (.ref 0), some (.ref 2), some (.ref 93), some (.ref 94), some (.ref 95), none, some (.ref 96), some (.ref 97), some (.ref 98), some (.ref 99), some (.ref 100), some (.int x11), some (.int x12), some (.int x13), some (.int x14), none, some (.int x16), some (.int x17), none, some (.int x19), some (.int x20), none]) (st' := []) (w' := ((jup w.1 98 (Int32.toNatClampNeg (4 * x11)) x17), w.2)) (g := [jin (4 * x11) 32]) (K := [(98, 20)]) (by decide +kernel) rfl rfl rfl hg77 (jk1 (rfl) jk0) ?_
      refine jlw_c (P := fun w78 => Ev l G room_1 y_Law_law (some (.int z.1), (jRx 105), z.2) 600000 7302250 99 22331 812 [some (.ref 0), some (.ref 2), some (.ref 93), some (.ref 94), some (.ref 95), none, some (.ref 96), some (.ref 97), some (.ref 98), some (.ref 99), some (.ref 100), some (.int x11), some (.int x12), some (.int x13), some (.int x14), none, some (.int x16), some (.int x17), none, some (.int x19), some (.int x20), none] [] (jRx 101) w78) h fun w78 h => ?_
      obtain ⟨hg79, h⟩ := jgd h
      refine ev_seg (o := 10) (nL := 22) (q := 823) (xs := [(.aload 8, 2, 8, 0, .null), (.iconst 4, 1, 0, 0, .int 4), (.iload 11, 2, 11, 0, .null), (.imul, 1, 0, 0, .null), (.iconst 1, 1, 0, 0, .int 1), (.iadd, 1, 0, 0, .null), (.iload 16, 2, 16, 0, .null), (.iastore, 1, 0, 0, .null)]) (L' := [some (.ref 0), some (.ref 2), some (.ref 93), some (.ref 94), some (.ref 95), none, some (.ref 96), some (.ref 97), some (.ref 98), some (.ref 99), some (.ref 100), some (.int x11), some (.int x12), some (.int x13), some (.int x14), none, some (.int x16), some (.int x17), none, some (.int x19), some (.int x20), none]) (st' := []) (w' := ((jup w78.1 98 (Int32.toNatClampNeg ((4 * x11) + 1)) x16), w78.2)) (g := [jin ((4 * x11) + 1) 32]) (K := [(98, 20)]) (by decide +kernel) rfl rfl rfl hg79 (jk1 (rfl) jk0) ?_
      refine jlw_c (P := fun w80 => Ev l G room_1 y_Law_law (some (.int z.1), (jRx 105), z.2) 600000 7302250 99 22331 823 [some (.ref 0), some (.ref 2), some (.ref 93), some (.ref 94), some (.ref 95), none, some (.ref 96), some (.ref 97), some (.ref 98), some (.ref 99), some (.ref 100), some (.int x11), some (.int x12), some (.int x13), some (.int x14), none, some (.int x16), some (.int x17), none, some (.int x19), some (.int x20), none] [] (jRx 101) w80) h fun w80 h => ?_
      obtain ⟨hg81, h⟩ := jgd h
      refine ev_seg (o := 10) (nL := 22) (q := 834) (xs := [(.aload 8, 2, 8, 0, .null), (.iconst 4, 1, 0, 0, .int 4), (.iload 11, 2, 11, 0, .null), (.imul, 1, 0, 0, .null), (.iconst 2, 1, 0, 0, .int 2), (.iadd, 1, 0, 0, .null), (.iload 19, 2, 19, 0, .null), (.iastore, 1, 0, 0, .null)]) (L' := [some (.ref 0), some (.ref 2), some (.ref 93), some (.ref 94), some (.ref 95), none, some (.ref 96), some (.ref 97), some (.ref 98), some (.ref 99), some (.ref 100), some (.int x11), some (.int x12), some (.int x13), some (.int x14), none, some (.int x16), some (.int x17), none, some (.int x19), some (.int x20), none]) (st' := []) (w' := ((jup w80.1 98 (Int32.toNatClampNeg ((4 * x11) + 2)) x19), w80.2)) (g := [jin ((4 * x11) + 2) 32]) (K := [(98, 20)]) (by decide +kernel) rfl rfl rfl hg81 (jk1 (rfl) jk0) ?_
      refine jlw_c (P := fun w82 => Ev l G room_1 y_Law_law (some (.int z.1), (jRx 105), z.2) 600000 7302250 99 22331 834 [some (.ref 0), some (.ref 2), some (.ref 93), some (.ref 94), some (.ref 95), none, some (.ref 96), some (.ref 97), some (.ref 98), some (.ref 99), some (.ref 100), some (.int x11), some (.int x12), some (.int x13), some (.int x14), none, some (.int x16), some (.int x17), none, some (.int x19), some (.int x20), none] [] (jRx 101) w82) h fun w82 h => ?_
      obtain ⟨hg83, h⟩ := jgd h
      refine ev_seg (o := 10) (nL := 22) (q := 844) (xs := [(.aload 8, 2, 8, 0, .null), (.iconst 4, 1, 0, 0, .int 4), (.iload 11, 2, 11, 0, .null), (.imul, 1, 0, 0, .null), (.iconst 3, 1, 0, 0, .int 3), (.iadd, 1, 0, 0, .null), (.iconst (-1), 1, 0, 0, .int (-1)), (.iastore, 1, 0, 0, .null)]) (L' := [some (.ref 0), some (.ref 2), some (.ref 93), some (.ref 94), some (.ref 95), none, some (.ref 96), some (.ref 97), some (.ref 98), some (.ref 99), some (.ref 100), some (.int x11), some (.int x12), some (.int x13), some (.int x14), none, some (.int x16), some (.int x17), none, some (.int x19), some (.int x20), none]) (st' := []) (w' := ((jup w82.1 98 (Int32.toNatClampNeg ((4 * x11) + 3)) (-1)), w82.2)) (g := [jin ((4 * x11) + 3) 32]) (K := [(98, 20)]) (by decide +kernel) rfl rfl rfl hg83 (jk1 (rfl) jk0) ?_
      refine jlw_c (P := fun w84 => Ev l G room_1 y_Law_law (some (.int z.1), (jRx 105), z.2) 600000 7302250 99 22331 844 [some (.ref 0), some (.ref 2), some (.ref 93), some (.ref 94), some (.ref 95), none, some (.ref 96), some (.ref 97), some (.ref 98), some (.ref 99), some (.ref 100), some (.int x11), some (.int x12), some (.int x13), some (.int x14), none, some (.int x16), some (.int x17), none, some (.int x19), some (.int x20), none] [] (jRx 101) w84) h fun w84 h => ?_
      refine ev_seg (o := 10) (nL := 22) (q := 573) (xs := [(.iinc 11 1, 3, 11, 0, .int 1), (.goto 499, 3, 0, 0, .null), (.iinc 14 1, 3, 14, 0, .int 1), (.goto (-776), 3, 0, 0, .null)]) (L' := [some (.ref 0), some (.ref 2), some (.ref 93), some (.ref 94), some (.ref 95), none, some (.ref 96), some (.ref 97), some (.ref 98), some (.ref 99), some (.ref 100), some (.int (x11 + 1)), some (.int x12), some (.int x13), some (.int (x14 + 1)), none, some (.int x16), some (.int x17), none, some (.int x19), some (.int x20), none]) (st' := []) (w' := w84) (g := []) (K := []) (by decide +kernel) rfl rfl rfl rfl jk0 ?_
      refine ev_mask [true, true, true, true, true, false, true, true, true, true, true, true, true, true, true, false, false, false, false, false, false, false] ?_
      exact hk573 _ _ _ _ _ _ h
    · replace h := jpos c85 h
      refine ev_seg (o := 10) (nL := 22) (q := 573) (xs := [(.goto 546, 3, 0, 0, .null), (.iinc 14 1, 3, 14, 0, .int 1), (.goto (-776), 3, 0, 0, .null)]) (L' := [some (.ref 0), some (.ref 2), some (.ref 93), some (.ref 94), some (.ref 95), none, some (.ref 96), some (.ref 97), some (.ref 98), some (.ref 99), some (.ref 100), some (.int x11), some (.int x12), some (.int x13), some (.int (x14 + 1)), none, some (.int x16), some (.int x17), none, some (.int x19), some (.int x20), none]) (st' := []) (w' := w) (g := []) (K := []) (by decide +kernel) rfl rfl rfl rfl jk0 ?_
      refine ev_mask [true, true, true, true, true, false, true, true, true, true, true, true, true, true, true, false, false, false, false, false, false, false] ?_
      exact hk573 _ _ _ _ _ _ h
  · replace h := jneg c86 h
    cases h
def f_Law_law_j741 (xs : Nat → Int32) (Ls : Nat) (k573 : Int32 → Int32 → Int32 → Int32 → jW → Option (Int32 × jW)) (x11 : Int32) (x12 : Int32) (x13 : Int32) (x14 : Int32) (x15 : Int32) (x16 : Int32) (x17 : Int32) (x19 : Int32) (s0 : Int32) (w : jW) : Option (Int32 × jW) :=
  if jal [!(51 == 0), jin x19 3, !(21 == 0), jin x19 3] = true then
  Option.bind (f_Count_make x17 x19 ((w.1 96 (Int32.toNatClampNeg x19)) + ((x15 >>> ((20 : Int32) &&& 31)) - (x15 >>> ((20 : Int32) &&& 31)) / 21 * 21)) ((w.1 97 (Int32.toNatClampNeg x19)) + ((x15 >>> ((16 : Int32) &&& 31)) - (x15 >>> ((16 : Int32) &&& 31)) / 51 * 51)) w) fun q76 =>
  if s0 = 0 then
    f_Law_law_j790 xs Ls k573 x11 x12 x13 x14 x16 x17 x19 s0 (-1) q76.1 q76.2
  else
    f_Law_law_j790 xs Ls k573 x11 x12 x13 x14 x16 x17 x19 s0 x11 q76.1 q76.2
  else none
set_option maxRecDepth 20000 in
set_option maxHeartbeats 40000000 in
theorem t_Law_law_j741 {l : Launch} {G : jG} (hG : jX G) {xs : Nat → Int32} {Ls : Nat} (hxs : True) (hLs : jscr G Ls xs) {k573 : Int32 → Int32 → Int32 → Int32 → jW → Option (Int32 × jW)} (hk573 : ∀ (x11 : Int32) (x12 : Int32) (x13 : Int32) (x14 : Int32) (w : jW) (z : (Int32 × jW)), k573 x11 x12 x13 x14 w = some z → Ev l G room_1 y_Law_law (some (.int z.1), (jRx 105), z.2) 600000 7302250 99 22331 573 [some (.ref 0), some (.ref 2), some (.ref 93), some (.ref 94), some (.ref 95), none, some (.ref 96), some (.ref 97), some (.ref 98), some (.ref 99), some (.ref 100), some (.int x11), some (.int x12), some (.int x13), some (.int x14), none, none, none, none, none, none, none] [] (jRx 101) w) {x11 : Int32} {x12 : Int32} {x13 : Int32} {x14 : Int32} {x15 : Int32} {x16 : Int32} {x17 : Int32} {x19 : Int32} {s0 : Int32} {w : jW} {z : (Int32 × jW)} (h : f_Law_law_j741 xs Ls k573 x11 x12 x13 x14 x15 x16 x17 x19 s0 w = some z) : Ev l G room_1 y_Law_law (some (.int z.1), (jRx 105), z.2) 600000 7302250 99 22331 741 [some (.ref 0), some (.ref 2), some (.ref 93), some (.ref 94), some (.ref 95), none, some (.ref 96), some (.ref 97), some (.ref 98), some (.ref 99), some (.ref 100), some (.int x11), some (.int x12), some (.int x13), some (.int x14), some (.int x15), some (.int x16), some (.int x17), none, some (.int x19), none, none] [.int s0] (jRx 101) w := by
  rw [f_Law_law_j741] at h
  obtain ⟨hg75, h⟩ := jgd h
  refine ev_seg (o := 10) (nL := 22) (q := 776) (xs := [(.istore 20, 2, 20, 0, .null), (.aload_n 1, 1, 1, 0, .null), (.iload 17, 2, 17, 0, .null), (.iload 19, 2, 19, 0, .null), (.aload 6, 2, 6, 0, .null), (.iload 19, 2, 19, 0, .null), (.iaload, 1, 0, 0, .null), (.iload 15, 2, 15, 0, .null), (.bipush 20, 2, 0, 0, .int 20), (.ishr, 1, 0, 0, .null), (.bipush 21, 2, 0, 0, .int 21), (.irem, 1, 0, 0, .null), (.iadd, 1, 0, 0, .null), (.aload 7, 2, 7, 0, .null), (.iload 19, 2, 19, 0, .null), (.iaload, 1, 0, 0, .null), (.iload 15, 2, 15, 0, .null), (.bipush 16, 2, 0, 0, .int 16), (.ishr, 1, 0, 0, .null), (.bipush 51, 2, 0, 0, .int 51), (.irem, 1, 0, 0, .null), (.iadd, 1, 0, 0, .null)]) (L' := [some (.ref 0), some (.ref 2), some (.ref 93), some (.ref 94), some (.ref 95), none, some (.ref 96), some (.ref 97), some (.ref 98), some (.ref 99), some (.ref 100), some (.int x11), some (.int x12), some (.int x13), some (.int x14), some (.int x15), some (.int x16), some (.int x17), none, some (.int x19), some (.int s0), none]) (st' := [.int ((w.1 97 (Int32.toNatClampNeg x19)) + ((x15 >>> ((16 : Int32) &&& 31)) - (x15 >>> ((16 : Int32) &&& 31)) / 51 * 51)), .int ((w.1 96 (Int32.toNatClampNeg x19)) + ((x15 >>> ((20 : Int32) &&& 31)) - (x15 >>> ((20 : Int32) &&& 31)) / 21 * 21)), .int x19, .int x17, .ref 2]) (w' := w) (g := [!(51 == 0), jin x19 3, !(21 == 0), jin x19 3]) (K := [(97, 20), (96, 20)]) (by decide +kernel) rfl rfl rfl hg75 (jk1 (rfl) (jk1 (rfl) jk0)) ?_
  obtain ⟨q76, hq76, h⟩ := jbe h
  refine ev_callV (ci := 9) (a := 2) (y2 := y_Count_make) (o := 10) (idx := 42) (d2 := d_Count_make) (n := 4) (mc2 := 0) (ms2 := 0) (As := [.int x17, .int x19, .int ((w.1 96 (Int32.toNatClampNeg x19)) + ((x15 >>> ((20 : Int32) &&& 31)) - (x15 >>> ((20 : Int32) &&& 31)) / 21 * 21)), .int ((w.1 97 (Int32.toNatClampNeg x19)) + ((x15 >>> ((16 : Int32) &&& 31)) - (x15 >>> ((16 : Int32) &&& 31)) / 51 * 51))]) (st := []) (res2 := (some (.int q76.1), (jRx 101), q76.2)) (by decide +kernel) rfl lk_10_42 mo_Count_make mv_Count_make ⟨Nat.le_of_ble_eq_true rfl, Nat.le_of_ble_eq_true rfl⟩ rfl rfl (kz_2 (Nat.le_of_ble_eq_true rfl)) (by decide) rfl (Nat.le_of_ble_eq_true rfl) ⟨Nat.le_of_ble_eq_true rfl, Nat.le_of_ble_eq_true rfl⟩ hG (e_Count_make hG (Nat.le_of_ble_eq_true rfl) hq76) ?_
  refine ev_seg (o := 10) (nL := 22) (q := 781) (xs := [(.iload 20, 2, 20, 0, .null)]) (L' := [some (.ref 0), some (.ref 2), some (.ref 93), some (.ref 94), some (.ref 95), none, some (.ref 96), some (.ref 97), some (.ref 98), some (.ref 99), some (.ref 100), some (.int x11), some (.int x12), some (.int x13), some (.int x14), some (.int x15), some (.int x16), some (.int x17), none, some (.int x19), some (.int s0), none]) (st' := [.int s0, .int q76.1]) (w' := q76.2) (g := []) (K := []) (by decide +kernel) rfl rfl rfl rfl jk0 ?_
  refine ev_if_eq (off := 8) (tgt := 789) (by decide +kernel) (by decide) (fun c87 => ?_) (fun c87 => ?_)
  · replace h := jpos c87 h
    refine ev_seg (o := 10) (nL := 22) (q := 790) (xs := [(.iconst (-1), 1, 0, 0, .int (-1))]) (L' := [some (.ref 0), some (.ref 2), some (.ref 93), some (.ref 94), some (.ref 95), none, some (.ref 96), some (.ref 97), some (.ref 98), some (.ref 99), some (.ref 100), some (.int x11), some (.int x12), some (.int x13), some (.int x14), some (.int x15), some (.int x16), some (.int x17), none, some (.int x19), some (.int s0), none]) (st' := [.int (-1), .int q76.1]) (w' := q76.2) (g := []) (K := []) (by decide +kernel) rfl rfl rfl rfl jk0 ?_
    refine ev_mask [true, true, true, true, true, false, true, true, true, true, true, true, true, true, true, false, true, true, false, true, true, false] ?_
    exact t_Law_law_j790 hG hxs hLs hk573 h
  · replace h := jneg c87 h
    refine ev_seg (o := 10) (nL := 22) (q := 790) (xs := [(.iload 11, 2, 11, 0, .null), (.goto 4, 3, 0, 0, .null)]) (L' := [some (.ref 0), some (.ref 2), some (.ref 93), some (.ref 94), some (.ref 95), none, some (.ref 96), some (.ref 97), some (.ref 98), some (.ref 99), some (.ref 100), some (.int x11), some (.int x12), some (.int x13), some (.int x14), some (.int x15), some (.int x16), some (.int x17), none, some (.int x19), some (.int s0), none]) (st' := [.int x11, .int q76.1]) (w' := q76.2) (g := []) (K := []) (by decide +kernel) rfl rfl rfl rfl jk0 ?_
    refine ev_mask [true, true, true, true, true, false, true, true, true, true, true, true, true, true, true, false, true, true, false, true, true, false] ?_
    exact t_Law_law_j790 hG hxs hLs hk573 h
def f_Law_law_j736 (xs : Nat → Int32) (Ls : Nat) (k573 : Int32 → Int32 → Int32 → Int32 → jW → Option (Int32 × jW)) (x11 : Int32) (x12 : Int32) (x13 : Int32) (x14 : Int32) (x15 : Int32) (x16 : Int32) (x17 : Int32) (x19 : Int32) (w : jW) : Option (Int32 × jW) :=
  f_Law_law_j741 xs Ls k573 x11 x12 x13 x14 x15 x16 x17 x19 1 w
set_option maxRecDepth 20000 in
set_option maxHeartbeats 40000000 in
theorem t_Law_law_j736 {l : Launch} {G : jG} (hG : jX G) {xs : Nat → Int32} {Ls : Nat} (hxs : True) (hLs : jscr G Ls xs) {k573 : Int32 → Int32 → Int32 → Int32 → jW → Option (Int32 × jW)} (hk573 : ∀ (x11 : Int32) (x12 : Int32) (x13 : Int32) (x14 : Int32) (w : jW) (z : (Int32 × jW)), k573 x11 x12 x13 x14 w = some z → Ev l G room_1 y_Law_law (some (.int z.1), (jRx 105), z.2) 600000 7302250 99 22331 573 [some (.ref 0), some (.ref 2), some (.ref 93), some (.ref 94), some (.ref 95), none, some (.ref 96), some (.ref 97), some (.ref 98), some (.ref 99), some (.ref 100), some (.int x11), some (.int x12), some (.int x13), some (.int x14), none, none, none, none, none, none, none] [] (jRx 101) w) {x11 : Int32} {x12 : Int32} {x13 : Int32} {x14 : Int32} {x15 : Int32} {x16 : Int32} {x17 : Int32} {x19 : Int32} {w : jW} {z : (Int32 × jW)} (h : f_Law_law_j736 xs Ls k573 x11 x12 x13 x14 x15 x16 x17 x19 w = some z) : Ev l G room_1 y_Law_law (some (.int z.1), (jRx 105), z.2) 600000 7302250 99 22331 736 [some (.ref 0), some (.ref 2), some (.ref 93), some (.ref 94), some (.ref 95), none, some (.ref 96), some (.ref 97), some (.ref 98), some (.ref 99), some (.ref 100), some (.int x11), some (.int x12), some (.int x13), some (.int x14), some (.int x15), some (.int x16), some (.int x17), none, some (.int x19), none, none] [] (jRx 101) w := by
  rw [f_Law_law_j736] at h
  refine ev_seg (o := 10) (nL := 22) (q := 741) (xs := [(.iconst 1, 1, 0, 0, .int 1), (.goto 4, 3, 0, 0, .null)]) (L' := [some (.ref 0), some (.ref 2), some (.ref 93), some (.ref 94), some (.ref 95), none, some (.ref 96), some (.ref 97), some (.ref 98), some (.ref 99), some (.ref 100), some (.int x11), some (.int x12), some (.int x13), some (.int x14), some (.int x15), some (.int x16), some (.int x17), none, some (.int x19), none, none]) (st' := [.int 1]) (w' := w) (g := []) (K := []) (by decide +kernel) rfl rfl rfl rfl jk0 ?_
  refine ev_mask [true, true, true, true, true, false, true, true, true, true, true, true, true, true, true, true, true, true, false, true, false, false] ?_
  exact t_Law_law_j741 hG hxs hLs hk573 h
def f_Law_law_j960 (xs : Nat → Int32) (Ls : Nat) (k573 : Int32 → Int32 → Int32 → Int32 → jW → Option (Int32 × jW)) (x11 : Int32) (x12 : Int32) (x13 : Int32) (x14 : Int32) (x16 : Int32) (x17 : Int32) (x18 : Int32) (x19 : Int32) (x20 : Int32) (s0 : Int32) (s1 : Int32) (w : jW) : Option (Int32 × jW) :=
  if s1 = s0 then
    if x20 = 0 then
      k573 x11 x12 x13 (x14 + 1) w
    else
      if jal [jin (5 * x12) 80] = true then
      jlw ((jup w.1 99 (Int32.toNatClampNeg (5 * x12)) x18), w.2) fun w108 =>
      if jal [jin ((5 * x12) + 1) 80] = true then
      jlw ((jup w108.1 99 (Int32.toNatClampNeg ((5 * x12) + 1)) x19), w108.2) fun w110 =>
      if jal [jin ((5 * x12) + 2) 80] = true then
      jlw ((jup w110.1 99 (Int32.toNatClampNeg ((5 * x12) + 2)) x17), w110.2) fun w112 =>
      if jal [jin ((5 * x12) + 3) 80] = true then
      jlw ((jup w112.1 99 (Int32.toNatClampNeg ((5 * x12) + 3)) x16), w112.2) fun w114 =>
      if jal [jin ((5 * x12) + 4) 80, jin ((5 * x19) + x17) 25] = true then
      jlw ((jup w114.1 99 (Int32.toNatClampNeg ((5 * x12) + 4)) (x16 + (w114.1 95 (Int32.toNatClampNeg ((5 * x19) + x17))))), w114.2) fun w116 =>
      k573 x11 (x12 + 1) x13 (x14 + 1) w116
      else none else none else none else none else none
  else
    none
set_option maxRecDepth 20000 in
set_option maxHeartbeats 40000000 in
theorem t_Law_law_j960 {l : Launch} {G : jG} (hG : jX G) {xs : Nat → Int32} {Ls : Nat} (hxs : True) (hLs : jscr G Ls xs) {k573 : Int32 → Int32 → Int32 → Int32 → jW → Option (Int32 × jW)} (hk573 : ∀ (x11 : Int32) (x12 : Int32) (x13 : Int32) (x14 : Int32) (w : jW) (z : (Int32 × jW)), k573 x11 x12 x13 x14 w = some z → Ev l G room_1 y_Law_law (some (.int z.1), (jRx 105), z.2) 600000 7302250 99 22331 573 [some (.ref 0), some (.ref 2), some (.ref 93), some (.ref 94), some (.ref 95), none, some (.ref 96), some (.ref 97), some (.ref 98), some (.ref 99), some (.ref 100), some (.int x11), some (.int x12), some (.int x13), some (.int x14), none, none, none, none, none, none, none] [] (jRx 101) w) {x11 : Int32} {x12 : Int32} {x13 : Int32} {x14 : Int32} {x16 : Int32} {x17 : Int32} {x18 : Int32} {x19 : Int32} {x20 : Int32} {s0 : Int32} {s1 : Int32} {w : jW} {z : (Int32 × jW)} (h : f_Law_law_j960 xs Ls k573 x11 x12 x13 x14 x16 x17 x18 x19 x20 s0 s1 w = some z) : Ev l G room_1 y_Law_law (some (.int z.1), (jRx 105), z.2) 600000 7302250 99 22331 960 [some (.ref 0), some (.ref 2), some (.ref 93), some (.ref 94), some (.ref 95), none, some (.ref 96), some (.ref 97), some (.ref 98), some (.ref 99), some (.ref 100), some (.int x11), some (.int x12), some (.int x13), some (.int x14), none, some (.int x16), some (.int x17), some (.int x18), some (.int x19), some (.int x20), none] [.int s0, .int s1] (jRx 101) w := by
  rw [f_Law_law_j960] at h
  refine ev_icmp_eq (off := 5) (tgt := 965) (by decide +kernel) (by decide) (fun c118 => ?_) (fun c118 => ?_)
  · replace h := jpos c118 h
    refine ev_seg (o := 10) (nL := 22) (q := 967) (xs := [(.iload 20, 2, 20, 0, .null)]) (L' := [some (.ref 0), some (.ref 2), some (.ref 93), some (.ref 94), some (.ref 95), none, some (.ref 96), some (.ref 97), some (.ref 98), some (.ref 99), some (.ref 100), some (.int x11), some (.int x12), some (.int x13), some (.int x14), none, some (.int x16), some (.int x17), some (.int x18), some (.int x19), some (.int x20), none]) (st' := [.int x20]) (w' := w) (g := []) (K := []) (by decide +kernel) rfl rfl rfl rfl jk0 ?_
    refine ev_if_ne (off := 6) (tgt := 973) (by decide +kernel) (by decide) (fun c117 => ?_) (fun c117 => ?_)
    · replace h := jneg c117 h
      obtain ⟨hg107, h⟩ := jgd h
      refine ev_seg (o := 10) (nL := 22) (q := 982) (xs := [(.aload 9, 2, 9, 0, .null), (.iconst 5, 1, 0, 0, .int 5), (.iload 12, 2, 12, 0, .null), (.imul, 1, 0, 0, .null), (.iload 18, 2, 18, 0, .null), (.iastore, 1, 0, 0, .null)]) (L' := [some (.ref 0), some (.ref 2), some (.ref 93), some (.ref 94), some (.ref 95), none, some (.ref 96), some (.ref 97), some (.ref 98), some (.ref 99), some (.ref 100), some (.int x11), some (.int x12), some (.int x13), some (.int x14), none, some (.int x16), some (.int x17), some (.int x18), some (.int x19), some (.int x20), none]) (st' := []) (w' := ((jup w.1 99 (Int32.toNatClampNeg (5 * x12)) x18), w.2)) (g := [jin (5 * x12) 80]) (K := [(99, 20)]) (by decide +kernel) rfl rfl rfl hg107 (jk1 (rfl) jk0) ?_
      refine jlw_c (P := fun w108 => Ev l G room_1 y_Law_law (some (.int z.1), (jRx 105), z.2) 600000 7302250 99 22331 982 [some (.ref 0), some (.ref 2), some (.ref 93), some (.ref 94), some (.ref 95), none, some (.ref 96), some (.ref 97), some (.ref 98), some (.ref 99), some (.ref 100), some (.int x11), some (.int x12), some (.int x13), some (.int x14), none, some (.int x16), some (.int x17), some (.int x18), some (.int x19), some (.int x20), none] [] (jRx 101) w108) h fun w108 h => ?_
      obtain ⟨hg109, h⟩ := jgd h
      refine ev_seg (o := 10) (nL := 22) (q := 993) (xs := [(.aload 9, 2, 9, 0, .null), (.iconst 5, 1, 0, 0, .int 5), (.iload 12, 2, 12, 0, .null), (.imul, 1, 0, 0, .null), (.iconst 1, 1, 0, 0, .int 1), (.iadd, 1, 0, 0, .null), (.iload 19, 2, 19, 0, .null), (.iastore, 1, 0, 0, .null)]) (L' := [some (.ref 0), some (.ref 2), some (.ref 93), some (.ref 94), some (.ref 95), none, some (.ref 96), some (.ref 97), some (.ref 98), some (.ref 99), some (.ref 100), some (.int x11), some (.int x12), some (.int x13), some (.int x14), none, some (.int x16), some (.int x17), some (.int x18), some (.int x19), some (.int x20), none]) (st' := []) (w' := ((jup w108.1 99 (Int32.toNatClampNeg ((5 * x12) + 1)) x19), w108.2)) (g := [jin ((5 * x12) + 1) 80]) (K := [(99, 20)]) (by decide +kernel) rfl rfl rfl hg109 (jk1 (rfl) jk0) ?_
      refine jlw_c (P := fun w110 => Ev l G room_1 y_Law_law (some (.int z.1), (jRx 105), z.2) 600000 7302250 99 22331 993 [some (.ref 0), some (.ref 2), some (.ref 93), some (.ref 94), some (.ref 95), none, some (.ref 96), some (.ref 97), some (.ref 98), some (.ref 99), some (.ref 100), some (.int x11), some (.int x12), some (.int x13), some (.int x14), none, some (.int x16), some (.int x17), some (.int x18), some (.int x19), some (.int x20), none] [] (jRx 101) w110) h fun w110 h => ?_
      obtain ⟨hg111, h⟩ := jgd h
      refine ev_seg (o := 10) (nL := 22) (q := 1004) (xs := [(.aload 9, 2, 9, 0, .null), (.iconst 5, 1, 0, 0, .int 5), (.iload 12, 2, 12, 0, .null), (.imul, 1, 0, 0, .null), (.iconst 2, 1, 0, 0, .int 2), (.iadd, 1, 0, 0, .null), (.iload 17, 2, 17, 0, .null), (.iastore, 1, 0, 0, .null)]) (L' := [some (.ref 0), some (.ref 2), some (.ref 93), some (.ref 94), some (.ref 95), none, some (.ref 96), some (.ref 97), some (.ref 98), some (.ref 99), some (.ref 100), some (.int x11), some (.int x12), some (.int x13), some (.int x14), none, some (.int x16), some (.int x17), some (.int x18), some (.int x19), some (.int x20), none]) (st' := []) (w' := ((jup w110.1 99 (Int32.toNatClampNeg ((5 * x12) + 2)) x17), w110.2)) (g := [jin ((5 * x12) + 2) 80]) (K := [(99, 20)]) (by decide +kernel) rfl rfl rfl hg111 (jk1 (rfl) jk0) ?_
      refine jlw_c (P := fun w112 => Ev l G room_1 y_Law_law (some (.int z.1), (jRx 105), z.2) 600000 7302250 99 22331 1004 [some (.ref 0), some (.ref 2), some (.ref 93), some (.ref 94), some (.ref 95), none, some (.ref 96), some (.ref 97), some (.ref 98), some (.ref 99), some (.ref 100), some (.int x11), some (.int x12), some (.int x13), some (.int x14), none, some (.int x16), some (.int x17), some (.int x18), some (.int x19), some (.int x20), none] [] (jRx 101) w112) h fun w112 h => ?_
      obtain ⟨hg113, h⟩ := jgd h
      refine ev_seg (o := 10) (nL := 22) (q := 1015) (xs := [(.aload 9, 2, 9, 0, .null), (.iconst 5, 1, 0, 0, .int 5), (.iload 12, 2, 12, 0, .null), (.imul, 1, 0, 0, .null), (.iconst 3, 1, 0, 0, .int 3), (.iadd, 1, 0, 0, .null), (.iload 16, 2, 16, 0, .null), (.iastore, 1, 0, 0, .null)]) (L' := [some (.ref 0), some (.ref 2), some (.ref 93), some (.ref 94), some (.ref 95), none, some (.ref 96), some (.ref 97), some (.ref 98), some (.ref 99), some (.ref 100), some (.int x11), some (.int x12), some (.int x13), some (.int x14), none, some (.int x16), some (.int x17), some (.int x18), some (.int x19), some (.int x20), none]) (st' := []) (w' := ((jup w112.1 99 (Int32.toNatClampNeg ((5 * x12) + 3)) x16), w112.2)) (g := [jin ((5 * x12) + 3) 80]) (K := [(99, 20)]) (by decide +kernel) rfl rfl rfl hg113 (jk1 (rfl) jk0) ?_
      refine jlw_c (P := fun w114 => Ev l G room_1 y_Law_law (some (.int z.1), (jRx 105), z.2) 600000 7302250 99 22331 1015 [some (.ref 0), some (.ref 2), some (.ref 93), some (.ref 94), some (.ref 95), none, some (.ref 96), some (.ref 97), some (.ref 98), some (.ref 99), some (.ref 100), some (.int x11), some (.int x12), some (.int x13), some (.int x14), none, some (.int x16), some (.int x17), some (.int x18), some (.int x19), some (.int x20), none] [] (jRx 101) w114) h fun w114 h => ?_
      obtain ⟨hg115, h⟩ := jgd h
      refine ev_seg (o := 10) (nL := 22) (q := 1037) (xs := [(.aload 9, 2, 9, 0, .null), (.iconst 5, 1, 0, 0, .int 5), (.iload 12, 2, 12, 0, .null), (.imul, 1, 0, 0, .null), (.iconst 4, 1, 0, 0, .int 4), (.iadd, 1, 0, 0, .null), (.iload 16, 2, 16, 0, .null), (.aload 4, 2, 4, 0, .null), (.iconst 5, 1, 0, 0, .int 5), (.iload 19, 2, 19, 0, .null), (.imul, 1, 0, 0, .null), (.iload 17, 2, 17, 0, .null), (.iadd, 1, 0, 0, .null), (.iaload, 1, 0, 0, .null), (.iadd, 1, 0, 0, .null), (.iastore, 1, 0, 0, .null)]) (L' := [some (.ref 0), some (.ref 2), some (.ref 93), some (.ref 94), some (.ref 95), none, some (.ref 96), some (.ref 97), some (.ref 98), some (.ref 99), some (.ref 100), some (.int x11), some (.int x12), some (.int x13), some (.int x14), none, some (.int x16), some (.int x17), some (.int x18), some (.int x19), some (.int x20), none]) (st' := []) (w' := ((jup w114.1 99 (Int32.toNatClampNeg ((5 * x12) + 4)) (x16 + (w114.1 95 (Int32.toNatClampNeg ((5 * x19) + x17))))), w114.2)) (g := [jin ((5 * x12) + 4) 80, jin ((5 * x19) + x17) 25]) (K := [(99, 20), (95, 20)]) (by decide +kernel) rfl rfl rfl hg115 (jk1 (rfl) (jk1 (rfl) jk0)) ?_
      refine jlw_c (P := fun w116 => Ev l G room_1 y_Law_law (some (.int z.1), (jRx 105), z.2) 600000 7302250 99 22331 1037 [some (.ref 0), some (.ref 2), some (.ref 93), some (.ref 94), some (.ref 95), none, some (.ref 96), some (.ref 97), some (.ref 98), some (.ref 99), some (.ref 100), some (.int x11), some (.int x12), some (.int x13), some (.int x14), none, some (.int x16), some (.int x17), some (.int x18), some (.int x19), some (.int x20), none] [] (jRx 101) w116) h fun w116 h => ?_
      refine ev_seg (o := 10) (nL := 22) (q := 573) (xs := [(.iinc 12 1, 3, 12, 0, .int 1), (.goto 306, 3, 0, 0, .null), (.iinc 14 1, 3, 14, 0, .int 1), (.goto (-776), 3, 0, 0, .null)]) (L' := [some (.ref 0), some (.ref 2), some (.ref 93), some (.ref 94), some (.ref 95), none, some (.ref 96), some (.ref 97), some (.ref 98), some (.ref 99), some (.ref 100), some (.int x11), some (.int (x12 + 1)), some (.int x13), some (.int (x14 + 1)), none, some (.int x16), some (.int x17), some (.int x18), some (.int x19), some (.int x20), none]) (st' := []) (w' := w116) (g := []) (K := []) (by decide +kernel) rfl rfl rfl rfl jk0 ?_
      refine ev_mask [true, true, true, true, true, false, true, true, true, true, true, true, true, true, true, false, false, false, false, false, false, false] ?_
      exact hk573 _ _ _ _ _ _ h
    · replace h := jpos c117 h
      refine ev_seg (o := 10) (nL := 22) (q := 573) (xs := [(.goto 376, 3, 0, 0, .null), (.iinc 14 1, 3, 14, 0, .int 1), (.goto (-776), 3, 0, 0, .null)]) (L' := [some (.ref 0), some (.ref 2), some (.ref 93), some (.ref 94), some (.ref 95), none, some (.ref 96), some (.ref 97), some (.ref 98), some (.ref 99), some (.ref 100), some (.int x11), some (.int x12), some (.int x13), some (.int (x14 + 1)), none, some (.int x16), some (.int x17), some (.int x18), some (.int x19), some (.int x20), none]) (st' := []) (w' := w) (g := []) (K := []) (by decide +kernel) rfl rfl rfl rfl jk0 ?_
      refine ev_mask [true, true, true, true, true, false, true, true, true, true, true, true, true, true, true, false, false, false, false, false, false, false] ?_
      exact hk573 _ _ _ _ _ _ h
  · replace h := jneg c118 h
    cases h
def f_Law_law_j939 (xs : Nat → Int32) (Ls : Nat) (k573 : Int32 → Int32 → Int32 → Int32 → jW → Option (Int32 × jW)) (x11 : Int32) (x12 : Int32) (x13 : Int32) (x14 : Int32) (x16 : Int32) (x17 : Int32) (x18 : Int32) (x19 : Int32) (s0 : Int32) (w : jW) : Option (Int32 × jW) :=
  Option.bind (f_Count_move x18 x17 w) fun q106 =>
  if s0 = 0 then
    f_Law_law_j960 xs Ls k573 x11 x12 x13 x14 x16 x17 x18 x19 s0 (-1) q106.1 q106.2
  else
    f_Law_law_j960 xs Ls k573 x11 x12 x13 x14 x16 x17 x18 x19 s0 x12 q106.1 q106.2
set_option maxRecDepth 20000 in
set_option maxHeartbeats 40000000 in
theorem t_Law_law_j939 {l : Launch} {G : jG} (hG : jX G) {xs : Nat → Int32} {Ls : Nat} (hxs : True) (hLs : jscr G Ls xs) {k573 : Int32 → Int32 → Int32 → Int32 → jW → Option (Int32 × jW)} (hk573 : ∀ (x11 : Int32) (x12 : Int32) (x13 : Int32) (x14 : Int32) (w : jW) (z : (Int32 × jW)), k573 x11 x12 x13 x14 w = some z → Ev l G room_1 y_Law_law (some (.int z.1), (jRx 105), z.2) 600000 7302250 99 22331 573 [some (.ref 0), some (.ref 2), some (.ref 93), some (.ref 94), some (.ref 95), none, some (.ref 96), some (.ref 97), some (.ref 98), some (.ref 99), some (.ref 100), some (.int x11), some (.int x12), some (.int x13), some (.int x14), none, none, none, none, none, none, none] [] (jRx 101) w) {x11 : Int32} {x12 : Int32} {x13 : Int32} {x14 : Int32} {x16 : Int32} {x17 : Int32} {x18 : Int32} {x19 : Int32} {s0 : Int32} {w : jW} {z : (Int32 × jW)} (h : f_Law_law_j939 xs Ls k573 x11 x12 x13 x14 x16 x17 x18 x19 s0 w = some z) : Ev l G room_1 y_Law_law (some (.int z.1), (jRx 105), z.2) 600000 7302250 99 22331 939 [some (.ref 0), some (.ref 2), some (.ref 93), some (.ref 94), some (.ref 95), none, some (.ref 96), some (.ref 97), some (.ref 98), some (.ref 99), some (.ref 100), some (.int x11), some (.int x12), some (.int x13), some (.int x14), none, some (.int x16), some (.int x17), some (.int x18), some (.int x19), none, none] [.int s0] (jRx 101) w := by
  rw [f_Law_law_j939] at h
  refine ev_seg (o := 10) (nL := 22) (q := 946) (xs := [(.istore 20, 2, 20, 0, .null), (.aload_n 1, 1, 1, 0, .null), (.iload 18, 2, 18, 0, .null), (.iload 17, 2, 17, 0, .null)]) (L' := [some (.ref 0), some (.ref 2), some (.ref 93), some (.ref 94), some (.ref 95), none, some (.ref 96), some (.ref 97), some (.ref 98), some (.ref 99), some (.ref 100), some (.int x11), some (.int x12), some (.int x13), some (.int x14), none, some (.int x16), some (.int x17), some (.int x18), some (.int x19), some (.int s0), none]) (st' := [.int x17, .int x18, .ref 2]) (w' := w) (g := []) (K := []) (by decide +kernel) rfl rfl rfl rfl jk0 ?_
  obtain ⟨q106, hq106, h⟩ := jbe h
  refine ev_callV (ci := 9) (a := 2) (y2 := y_Count_move) (o := 10) (idx := 50) (d2 := d_Count_move) (n := 2) (mc2 := 0) (ms2 := 0) (As := [.int x18, .int x17]) (st := []) (res2 := (some (.int q106.1), (jRx 101), q106.2)) (by decide +kernel) rfl lk_10_50 mo_Count_move mv_Count_move ⟨Nat.le_of_ble_eq_true rfl, Nat.le_of_ble_eq_true rfl⟩ rfl rfl (kz_2 (Nat.le_of_ble_eq_true rfl)) (by decide) rfl (Nat.le_of_ble_eq_true rfl) ⟨Nat.le_of_ble_eq_true rfl, Nat.le_of_ble_eq_true rfl⟩ hG (e_Count_move hG (Nat.le_of_ble_eq_true rfl) hq106) ?_
  refine ev_seg (o := 10) (nL := 22) (q := 951) (xs := [(.iload 20, 2, 20, 0, .null)]) (L' := [some (.ref 0), some (.ref 2), some (.ref 93), some (.ref 94), some (.ref 95), none, some (.ref 96), some (.ref 97), some (.ref 98), some (.ref 99), some (.ref 100), some (.int x11), some (.int x12), some (.int x13), some (.int x14), none, some (.int x16), some (.int x17), some (.int x18), some (.int x19), some (.int s0), none]) (st' := [.int s0, .int q106.1]) (w' := q106.2) (g := []) (K := []) (by decide +kernel) rfl rfl rfl rfl jk0 ?_
  refine ev_if_eq (off := 8) (tgt := 959) (by decide +kernel) (by decide) (fun c119 => ?_) (fun c119 => ?_)
  · replace h := jpos c119 h
    refine ev_seg (o := 10) (nL := 22) (q := 960) (xs := [(.iconst (-1), 1, 0, 0, .int (-1))]) (L' := [some (.ref 0), some (.ref 2), some (.ref 93), some (.ref 94), some (.ref 95), none, some (.ref 96), some (.ref 97), some (.ref 98), some (.ref 99), some (.ref 100), some (.int x11), some (.int x12), some (.int x13), some (.int x14), none, some (.int x16), some (.int x17), some (.int x18), some (.int x19), some (.int s0), none]) (st' := [.int (-1), .int q106.1]) (w' := q106.2) (g := []) (K := []) (by decide +kernel) rfl rfl rfl rfl jk0 ?_
    refine ev_mask [true, true, true, true, true, false, true, true, true, true, true, true, true, true, true, false, true, true, true, true, true, false] ?_
    exact t_Law_law_j960 hG hxs hLs hk573 h
  · replace h := jneg c119 h
    refine ev_seg (o := 10) (nL := 22) (q := 960) (xs := [(.iload 12, 2, 12, 0, .null), (.goto 4, 3, 0, 0, .null)]) (L' := [some (.ref 0), some (.ref 2), some (.ref 93), some (.ref 94), some (.ref 95), none, some (.ref 96), some (.ref 97), some (.ref 98), some (.ref 99), some (.ref 100), some (.int x11), some (.int x12), some (.int x13), some (.int x14), none, some (.int x16), some (.int x17), some (.int x18), some (.int x19), some (.int s0), none]) (st' := [.int x12, .int q106.1]) (w' := q106.2) (g := []) (K := []) (by decide +kernel) rfl rfl rfl rfl jk0 ?_
    refine ev_mask [true, true, true, true, true, false, true, true, true, true, true, true, true, true, true, false, true, true, true, true, true, false] ?_
    exact t_Law_law_j960 hG hxs hLs hk573 h
def f_Law_law_j938 (xs : Nat → Int32) (Ls : Nat) (k573 : Int32 → Int32 → Int32 → Int32 → jW → Option (Int32 × jW)) (x11 : Int32) (x12 : Int32) (x13 : Int32) (x14 : Int32) (x16 : Int32) (x17 : Int32) (x18 : Int32) (x19 : Int32) (w : jW) : Option (Int32 × jW) :=
  f_Law_law_j939 xs Ls k573 x11 x12 x13 x14 x16 x17 x18 x19 0 w
set_option maxRecDepth 20000 in
set_option maxHeartbeats 40000000 in
theorem t_Law_law_j938 {l : Launch} {G : jG} (hG : jX G) {xs : Nat → Int32} {Ls : Nat} (hxs : True) (hLs : jscr G Ls xs) {k573 : Int32 → Int32 → Int32 → Int32 → jW → Option (Int32 × jW)} (hk573 : ∀ (x11 : Int32) (x12 : Int32) (x13 : Int32) (x14 : Int32) (w : jW) (z : (Int32 × jW)), k573 x11 x12 x13 x14 w = some z → Ev l G room_1 y_Law_law (some (.int z.1), (jRx 105), z.2) 600000 7302250 99 22331 573 [some (.ref 0), some (.ref 2), some (.ref 93), some (.ref 94), some (.ref 95), none, some (.ref 96), some (.ref 97), some (.ref 98), some (.ref 99), some (.ref 100), some (.int x11), some (.int x12), some (.int x13), some (.int x14), none, none, none, none, none, none, none] [] (jRx 101) w) {x11 : Int32} {x12 : Int32} {x13 : Int32} {x14 : Int32} {x16 : Int32} {x17 : Int32} {x18 : Int32} {x19 : Int32} {w : jW} {z : (Int32 × jW)} (h : f_Law_law_j938 xs Ls k573 x11 x12 x13 x14 x16 x17 x18 x19 w = some z) : Ev l G room_1 y_Law_law (some (.int z.1), (jRx 105), z.2) 600000 7302250 99 22331 938 [some (.ref 0), some (.ref 2), some (.ref 93), some (.ref 94), some (.ref 95), none, some (.ref 96), some (.ref 97), some (.ref 98), some (.ref 99), some (.ref 100), some (.int x11), some (.int x12), some (.int x13), some (.int x14), none, some (.int x16), some (.int x17), some (.int x18), some (.int x19), none, none] [] (jRx 101) w := by
  rw [f_Law_law_j938] at h
  refine ev_seg (o := 10) (nL := 22) (q := 939) (xs := [(.iconst 0, 1, 0, 0, .int 0)]) (L' := [some (.ref 0), some (.ref 2), some (.ref 93), some (.ref 94), some (.ref 95), none, some (.ref 96), some (.ref 97), some (.ref 98), some (.ref 99), some (.ref 100), some (.int x11), some (.int x12), some (.int x13), some (.int x14), none, some (.int x16), some (.int x17), some (.int x18), some (.int x19), none, none]) (st' := [.int 0]) (w' := w) (g := []) (K := []) (by decide +kernel) rfl rfl rfl rfl jk0 ?_
  refine ev_mask [true, true, true, true, true, false, true, true, true, true, true, true, true, true, true, false, true, true, true, true, false, false] ?_
  exact t_Law_law_j939 hG hxs hLs hk573 h
def f_Law_law_j884 (xs : Nat → Int32) (Ls : Nat) (k573 : Int32 → Int32 → Int32 → Int32 → jW → Option (Int32 × jW)) (x11 : Int32) (x12 : Int32) (x13 : Int32) (x14 : Int32) (x16 : Int32) (x17 : Int32) (x18 : Int32) (w : jW) : Option (Int32 × jW) :=
  Option.bind (f_Law_where x12 x18 x16 w) fun q105 =>
  if q105.1 < 100 then
    if q105.1 = x17 then
      f_Law_law_j938 xs Ls k573 x11 x12 x13 x14 x16 x17 x18 q105.1 q105.2
    else
      if jal [jin ((5 * ((q105.1 - q105.1 / 100 * 100) - (q105.1 - q105.1 / 100 * 100) / 5 * 5)) + x17) 25, !(5 == 0), !(100 == 0)] = true then
      if (q105.2.1 95 (Int32.toNatClampNeg ((5 * ((q105.1 - q105.1 / 100 * 100) - (q105.1 - q105.1 / 100 * 100) / 5 * 5)) + x17))) < 900 then
        f_Law_law_j939 xs Ls k573 x11 x12 x13 x14 x16 x17 x18 q105.1 1 q105.2
      else
        f_Law_law_j938 xs Ls k573 x11 x12 x13 x14 x16 x17 x18 q105.1 q105.2
      else none
  else
    f_Law_law_j938 xs Ls k573 x11 x12 x13 x14 x16 x17 x18 q105.1 q105.2
set_option maxRecDepth 20000 in
set_option maxHeartbeats 40000000 in
theorem t_Law_law_j884 {l : Launch} {G : jG} (hG : jX G) {xs : Nat → Int32} {Ls : Nat} (hxs : True) (hLs : jscr G Ls xs) {k573 : Int32 → Int32 → Int32 → Int32 → jW → Option (Int32 × jW)} (hk573 : ∀ (x11 : Int32) (x12 : Int32) (x13 : Int32) (x14 : Int32) (w : jW) (z : (Int32 × jW)), k573 x11 x12 x13 x14 w = some z → Ev l G room_1 y_Law_law (some (.int z.1), (jRx 105), z.2) 600000 7302250 99 22331 573 [some (.ref 0), some (.ref 2), some (.ref 93), some (.ref 94), some (.ref 95), none, some (.ref 96), some (.ref 97), some (.ref 98), some (.ref 99), some (.ref 100), some (.int x11), some (.int x12), some (.int x13), some (.int x14), none, none, none, none, none, none, none] [] (jRx 101) w) {x11 : Int32} {x12 : Int32} {x13 : Int32} {x14 : Int32} {x16 : Int32} {x17 : Int32} {x18 : Int32} {w : jW} {z : (Int32 × jW)} (h : f_Law_law_j884 xs Ls k573 x11 x12 x13 x14 x16 x17 x18 w = some z) : Ev l G room_1 y_Law_law (some (.int z.1), (jRx 105), z.2) 600000 7302250 99 22331 884 [some (.ref 0), some (.ref 2), some (.ref 93), some (.ref 94), some (.ref 95), none, some (.ref 96), some (.ref 97), some (.ref 98), some (.ref 99), some (.ref 100), some (.int x11), some (.int x12), some (.int x13), some (.int x14), none, some (.int x16), some (.int x17), some (.int x18), none, none, none] [] (jRx 101) w := by
  rw [f_Law_law_j884] at h
  refine ev_seg (o := 10) (nL := 22) (q := 894) (xs := [(.aload 8, 2, 8, 0, .null), (.aload 9, 2, 9, 0, .null), (.iload 12, 2, 12, 0, .null), (.iload 18, 2, 18, 0, .null), (.iload 16, 2, 16, 0, .null)]) (L' := [some (.ref 0), some (.ref 2), some (.ref 93), some (.ref 94), some (.ref 95), none, some (.ref 96), some (.ref 97), some (.ref 98), some (.ref 99), some (.ref 100), some (.int x11), some (.int x12), some (.int x13), some (.int x14), none, some (.int x16), some (.int x17), some (.int x18), none, none, none]) (st' := [.int x16, .int x18, .int x12, .ref 99, .ref 98]) (w' := w) (g := []) (K := []) (by decide +kernel) rfl rfl rfl rfl jk0 ?_
  obtain ⟨q105, hq105, h⟩ := jbe h
  refine ev_callS (y2 := y_Law_where) (o := 10) (idx := 46) (d2 := d_Law_where) (n := 5) (mc2 := 0) (ms2 := 0) (As := [.ref 98, .ref 99, .int x12, .int x18, .int x16]) (st := []) (res2 := (some (.int q105.1), (jRx 101), q105.2)) (by decide +kernel) rfl lk_10_46 mo_Law_where ms_Law_where ⟨Nat.le_of_ble_eq_true rfl, Nat.le_of_ble_eq_true rfl⟩ rfl rfl (Nat.le_of_ble_eq_true rfl) ⟨Nat.le_of_ble_eq_true rfl, Nat.le_of_ble_eq_true rfl⟩ hG (e_Law_where hG hq105) ?_
  refine ev_seg (o := 10) (nL := 22) (q := 903) (xs := [(.istore 19, 2, 19, 0, .null), (.iload 19, 2, 19, 0, .null), (.bipush 100, 2, 0, 0, .int 100)]) (L' := [some (.ref 0), some (.ref 2), some (.ref 93), some (.ref 94), some (.ref 95), none, some (.ref 96), some (.ref 97), some (.ref 98), some (.ref 99), some (.ref 100), some (.int x11), some (.int x12), some (.int x13), some (.int x14), none, some (.int x16), some (.int x17), some (.int x18), some (.int q105.1), none, none]) (st' := [.int 100, .int q105.1]) (w' := q105.2) (g := []) (K := []) (by decide +kernel) rfl rfl rfl rfl jk0 ?_
  refine ev_icmp_ge (off := 35) (tgt := 938) (by decide +kernel) (by decide) (fun c123 => ?_) (fun c123 => ?_)
  · replace h := jneg c123 h
    refine ev_mask [true, true, true, true, true, false, true, true, true, true, true, true, true, true, true, false, true, true, true, true, false, false] ?_
    exact t_Law_law_j938 hG hxs hLs hk573 h
  · replace h := jpos c123 h
    refine ev_seg (o := 10) (nL := 22) (q := 910) (xs := [(.iload 19, 2, 19, 0, .null), (.iload 17, 2, 17, 0, .null)]) (L' := [some (.ref 0), some (.ref 2), some (.ref 93), some (.ref 94), some (.ref 95), none, some (.ref 96), some (.ref 97), some (.ref 98), some (.ref 99), some (.ref 100), some (.int x11), some (.int x12), some (.int x13), some (.int x14), none, some (.int x16), some (.int x17), some (.int x18), some (.int q105.1), none, none]) (st' := [.int x17, .int q105.1]) (w' := q105.2) (g := []) (K := []) (by decide +kernel) rfl rfl rfl rfl jk0 ?_
    refine ev_icmp_eq (off := 28) (tgt := 938) (by decide +kernel) (by decide) (fun c122 => ?_) (fun c122 => ?_)
    · replace h := jpos c122 h
      refine ev_mask [true, true, true, true, true, false, true, true, true, true, true, true, true, true, true, false, true, true, true, true, false, false] ?_
      exact t_Law_law_j938 hG hxs hLs hk573 h
    · replace h := jneg c122 h
      obtain ⟨hg120, h⟩ := jgd h
      refine ev_seg (o := 10) (nL := 22) (q := 931) (xs := [(.aload 4, 2, 4, 0, .null), (.iconst 5, 1, 0, 0, .int 5), (.iload 19, 2, 19, 0, .null), (.bipush 100, 2, 0, 0, .int 100), (.irem, 1, 0, 0, .null), (.iconst 5, 1, 0, 0, .int 5), (.irem, 1, 0, 0, .null), (.imul, 1, 0, 0, .null), (.iload 17, 2, 17, 0, .null), (.iadd, 1, 0, 0, .null), (.iaload, 1, 0, 0, .null), (.sipush 900, 3, 0, 0, .int 900)]) (L' := [some (.ref 0), some (.ref 2), some (.ref 93), some (.ref 94), some (.ref 95), none, some (.ref 96), some (.ref 97), some (.ref 98), some (.ref 99), some (.ref 100), some (.int x11), some (.int x12), some (.int x13), some (.int x14), none, some (.int x16), some (.int x17), some (.int x18), some (.int q105.1), none, none]) (st' := [.int 900, .int (q105.2.1 95 (Int32.toNatClampNeg ((5 * ((q105.1 - q105.1 / 100 * 100) - (q105.1 - q105.1 / 100 * 100) / 5 * 5)) + x17)))]) (w' := q105.2) (g := [jin ((5 * ((q105.1 - q105.1 / 100 * 100) - (q105.1 - q105.1 / 100 * 100) / 5 * 5)) + x17) 25, !(5 == 0), !(100 == 0)]) (K := [(95, 20)]) (by decide +kernel) rfl rfl rfl hg120 (jk1 (rfl) jk0) ?_
      refine ev_icmp_ge (off := 7) (tgt := 938) (by decide +kernel) (by decide) (fun c121 => ?_) (fun c121 => ?_)
      · replace h := jneg c121 h
        refine ev_mask [true, true, true, true, true, false, true, true, true, true, true, true, true, true, true, false, true, true, true, true, false, false] ?_
        exact t_Law_law_j938 hG hxs hLs hk573 h
      · replace h := jpos c121 h
        refine ev_seg (o := 10) (nL := 22) (q := 939) (xs := [(.iconst 1, 1, 0, 0, .int 1), (.goto 4, 3, 0, 0, .null)]) (L' := [some (.ref 0), some (.ref 2), some (.ref 93), some (.ref 94), some (.ref 95), none, some (.ref 96), some (.ref 97), some (.ref 98), some (.ref 99), some (.ref 100), some (.int x11), some (.int x12), some (.int x13), some (.int x14), none, some (.int x16), some (.int x17), some (.int x18), some (.int q105.1), none, none]) (st' := [.int 1]) (w' := q105.2) (g := []) (K := []) (by decide +kernel) rfl rfl rfl rfl jk0 ?_
        refine ev_mask [true, true, true, true, true, false, true, true, true, true, true, true, true, true, true, false, true, true, true, true, false, false] ?_
        exact t_Law_law_j939 hG hxs hLs hk573 h
def f_Law_law_j1135 (xs : Nat → Int32) (Ls : Nat) (k573 : Int32 → Int32 → Int32 → Int32 → jW → Option (Int32 × jW)) (x11 : Int32) (x12 : Int32) (x13 : Int32) (x14 : Int32) (x16 : Int32) (x18 : Int32) (x21 : Int32) (w : jW) : Option (Int32 × jW) :=
  if x21 = 3 then
    if jal [jin ((4 * x18) + 3) 32] = true then
    jlw ((jup w.1 98 (Int32.toNatClampNeg ((4 * x18) + 3)) x16), w.2) fun w152 =>
    k573 x11 x12 x13 (x14 + 1) w152
    else none
  else
    k573 x11 x12 x13 (x14 + 1) w
set_option maxRecDepth 20000 in
set_option maxHeartbeats 40000000 in
theorem t_Law_law_j1135 {l : Launch} {G : jG} (hG : jX G) {xs : Nat → Int32} {Ls : Nat} (hxs : True) (hLs : jscr G Ls xs) {k573 : Int32 → Int32 → Int32 → Int32 → jW → Option (Int32 × jW)} (hk573 : ∀ (x11 : Int32) (x12 : Int32) (x13 : Int32) (x14 : Int32) (w : jW) (z : (Int32 × jW)), k573 x11 x12 x13 x14 w = some z → Ev l G room_1 y_Law_law (some (.int z.1), (jRx 105), z.2) 600000 7302250 99 22331 573 [some (.ref 0), some (.ref 2), some (.ref 93), some (.ref 94), some (.ref 95), none, some (.ref 96), some (.ref 97), some (.ref 98), some (.ref 99), some (.ref 100), some (.int x11), some (.int x12), some (.int x13), some (.int x14), none, none, none, none, none, none, none] [] (jRx 101) w) {x11 : Int32} {x12 : Int32} {x13 : Int32} {x14 : Int32} {x16 : Int32} {x18 : Int32} {x21 : Int32} {w : jW} {z : (Int32 × jW)} (h : f_Law_law_j1135 xs Ls k573 x11 x12 x13 x14 x16 x18 x21 w = some z) : Ev l G room_1 y_Law_law (some (.int z.1), (jRx 105), z.2) 600000 7302250 99 22331 1135 [some (.ref 0), some (.ref 2), some (.ref 93), some (.ref 94), some (.ref 95), none, some (.ref 96), some (.ref 97), some (.ref 98), some (.ref 99), some (.ref 100), some (.int x11), some (.int x12), some (.int x13), some (.int x14), none, some (.int x16), none, some (.int x18), none, none, some (.int x21)] [] (jRx 101) w := by
  rw [f_Law_law_j1135] at h
  refine ev_seg (o := 10) (nL := 22) (q := 1138) (xs := [(.iload 21, 2, 21, 0, .null), (.iconst 3, 1, 0, 0, .int 3)]) (L' := [some (.ref 0), some (.ref 2), some (.ref 93), some (.ref 94), some (.ref 95), none, some (.ref 96), some (.ref 97), some (.ref 98), some (.ref 99), some (.ref 100), some (.int x11), some (.int x12), some (.int x13), some (.int x14), none, some (.int x16), none, some (.int x18), none, none, some (.int x21)]) (st' := [.int 3, .int x21]) (w' := w) (g := []) (K := []) (by decide +kernel) rfl rfl rfl rfl jk0 ?_
  refine ev_icmp_ne (off := 208) (tgt := 1346) (by decide +kernel) (by decide) (fun c153 => ?_) (fun c153 => ?_)
  · replace h := jneg c153 h
    refine ev_seg (o := 10) (nL := 22) (q := 573) (xs := [(.iinc 14 1, 3, 14, 0, .int 1), (.goto (-776), 3, 0, 0, .null)]) (L' := [some (.ref 0), some (.ref 2), some (.ref 93), some (.ref 94), some (.ref 95), none, some (.ref 96), some (.ref 97), some (.ref 98), some (.ref 99), some (.ref 100), some (.int x11), some (.int x12), some (.int x13), some (.int (x14 + 1)), none, some (.int x16), none, some (.int x18), none, none, some (.int x21)]) (st' := []) (w' := w) (g := []) (K := []) (by decide +kernel) rfl rfl rfl rfl jk0 ?_
    refine ev_mask [true, true, true, true, true, false, true, true, true, true, true, true, true, true, true, false, false, false, false, false, false, false] ?_
    exact hk573 _ _ _ _ _ _ h
  · replace h := jpos c153 h
    obtain ⟨hg151, h⟩ := jgd h
    refine ev_seg (o := 10) (nL := 22) (q := 1152) (xs := [(.aload 8, 2, 8, 0, .null), (.iconst 4, 1, 0, 0, .int 4), (.iload 18, 2, 18, 0, .null), (.imul, 1, 0, 0, .null), (.iconst 3, 1, 0, 0, .int 3), (.iadd, 1, 0, 0, .null), (.iload 16, 2, 16, 0, .null), (.iastore, 1, 0, 0, .null)]) (L' := [some (.ref 0), some (.ref 2), some (.ref 93), some (.ref 94), some (.ref 95), none, some (.ref 96), some (.ref 97), some (.ref 98), some (.ref 99), some (.ref 100), some (.int x11), some (.int x12), some (.int x13), some (.int x14), none, some (.int x16), none, some (.int x18), none, none, some (.int x21)]) (st' := []) (w' := ((jup w.1 98 (Int32.toNatClampNeg ((4 * x18) + 3)) x16), w.2)) (g := [jin ((4 * x18) + 3) 32]) (K := [(98, 20)]) (by decide +kernel) rfl rfl rfl hg151 (jk1 (rfl) jk0) ?_
    refine jlw_c (P := fun w152 => Ev l G room_1 y_Law_law (some (.int z.1), (jRx 105), z.2) 600000 7302250 99 22331 1152 [some (.ref 0), some (.ref 2), some (.ref 93), some (.ref 94), some (.ref 95), none, some (.ref 96), some (.ref 97), some (.ref 98), some (.ref 99), some (.ref 100), some (.int x11), some (.int x12), some (.int x13), some (.int x14), none, some (.int x16), none, some (.int x18), none, none, some (.int x21)] [] (jRx 101) w152) h fun w152 h => ?_
    refine ev_seg (o := 10) (nL := 22) (q := 573) (xs := [(.goto 194, 3, 0, 0, .null), (.iinc 14 1, 3, 14, 0, .int 1), (.goto (-776), 3, 0, 0, .null)]) (L' := [some (.ref 0), some (.ref 2), some (.ref 93), some (.ref 94), some (.ref 95), none, some (.ref 96), some (.ref 97), some (.ref 98), some (.ref 99), some (.ref 100), some (.int x11), some (.int x12), some (.int x13), some (.int (x14 + 1)), none, some (.int x16), none, some (.int x18), none, none, some (.int x21)]) (st' := []) (w' := w152) (g := []) (K := []) (by decide +kernel) rfl rfl rfl rfl jk0 ?_
    refine ev_mask [true, true, true, true, true, false, true, true, true, true, true, true, true, true, true, false, false, false, false, false, false, false] ?_
    exact hk573 _ _ _ _ _ _ h
def f_Law_law_j1112 (xs : Nat → Int32) (Ls : Nat) (k573 : Int32 → Int32 → Int32 → Int32 → jW → Option (Int32 × jW)) (x11 : Int32) (x12 : Int32) (x13 : Int32) (x14 : Int32) (x16 : Int32) (x18 : Int32) (x19 : Int32) (x21 : Int32) (w : jW) : Option (Int32 × jW) :=
  if x19 < 100 then
    if jal [jin x19 5] = true then
    if (w.1 94 (Int32.toNatClampNeg x19)) = 3 then
      f_Law_law_j1135 xs Ls k573 x11 x12 x13 x14 x16 x18 x21 w
    else
      if x21 = (-1) then
        f_Law_law_j1135 xs Ls k573 x11 x12 x13 x14 x16 x18 x21 w
      else
        none
    else none
  else
    f_Law_law_j1135 xs Ls k573 x11 x12 x13 x14 x16 x18 x21 w
set_option maxRecDepth 20000 in
set_option maxHeartbeats 40000000 in
theorem t_Law_law_j1112 {l : Launch} {G : jG} (hG : jX G) {xs : Nat → Int32} {Ls : Nat} (hxs : True) (hLs : jscr G Ls xs) {k573 : Int32 → Int32 → Int32 → Int32 → jW → Option (Int32 × jW)} (hk573 : ∀ (x11 : Int32) (x12 : Int32) (x13 : Int32) (x14 : Int32) (w : jW) (z : (Int32 × jW)), k573 x11 x12 x13 x14 w = some z → Ev l G room_1 y_Law_law (some (.int z.1), (jRx 105), z.2) 600000 7302250 99 22331 573 [some (.ref 0), some (.ref 2), some (.ref 93), some (.ref 94), some (.ref 95), none, some (.ref 96), some (.ref 97), some (.ref 98), some (.ref 99), some (.ref 100), some (.int x11), some (.int x12), some (.int x13), some (.int x14), none, none, none, none, none, none, none] [] (jRx 101) w) {x11 : Int32} {x12 : Int32} {x13 : Int32} {x14 : Int32} {x16 : Int32} {x18 : Int32} {x19 : Int32} {x21 : Int32} {w : jW} {z : (Int32 × jW)} (h : f_Law_law_j1112 xs Ls k573 x11 x12 x13 x14 x16 x18 x19 x21 w = some z) : Ev l G room_1 y_Law_law (some (.int z.1), (jRx 105), z.2) 600000 7302250 99 22331 1112 [some (.ref 0), some (.ref 2), some (.ref 93), some (.ref 94), some (.ref 95), none, some (.ref 96), some (.ref 97), some (.ref 98), some (.ref 99), some (.ref 100), some (.int x11), some (.int x12), some (.int x13), some (.int x14), none, some (.int x16), none, some (.int x18), some (.int x19), none, some (.int x21)] [] (jRx 101) w := by
  rw [f_Law_law_j1112] at h
  refine ev_seg (o := 10) (nL := 22) (q := 1116) (xs := [(.iload 19, 2, 19, 0, .null), (.bipush 100, 2, 0, 0, .int 100)]) (L' := [some (.ref 0), some (.ref 2), some (.ref 93), some (.ref 94), some (.ref 95), none, some (.ref 96), some (.ref 97), some (.ref 98), some (.ref 99), some (.ref 100), some (.int x11), some (.int x12), some (.int x13), some (.int x14), none, some (.int x16), none, some (.int x18), some (.int x19), none, some (.int x21)]) (st' := [.int 100, .int x19]) (w' := w) (g := []) (K := []) (by decide +kernel) rfl rfl rfl rfl jk0 ?_
  refine ev_icmp_ge (off := 19) (tgt := 1135) (by decide +kernel) (by decide) (fun c157 => ?_) (fun c157 => ?_)
  · replace h := jneg c157 h
    refine ev_mask [true, true, true, true, true, false, true, true, true, true, true, true, true, true, true, false, true, false, true, false, false, true] ?_
    exact t_Law_law_j1135 hG hxs hLs hk573 h
  · replace h := jpos c157 h
    obtain ⟨hg154, h⟩ := jgd h
    refine ev_seg (o := 10) (nL := 22) (q := 1124) (xs := [(.aload_n 3, 1, 3, 0, .null), (.iload 19, 2, 19, 0, .null), (.iaload, 1, 0, 0, .null), (.iconst 3, 1, 0, 0, .int 3)]) (L' := [some (.ref 0), some (.ref 2), some (.ref 93), some (.ref 94), some (.ref 95), none, some (.ref 96), some (.ref 97), some (.ref 98), some (.ref 99), some (.ref 100), some (.int x11), some (.int x12), some (.int x13), some (.int x14), none, some (.int x16), none, some (.int x18), some (.int x19), none, some (.int x21)]) (st' := [.int 3, .int (w.1 94 (Int32.toNatClampNeg x19))]) (w' := w) (g := [jin x19 5]) (K := [(94, 20)]) (by decide +kernel) rfl rfl rfl hg154 (jk1 (rfl) jk0) ?_
    refine ev_icmp_eq (off := 11) (tgt := 1135) (by decide +kernel) (by decide) (fun c156 => ?_) (fun c156 => ?_)
    · replace h := jpos c156 h
      refine ev_mask [true, true, true, true, true, false, true, true, true, true, true, true, true, true, true, false, true, false, true, false, false, true] ?_
      exact t_Law_law_j1135 hG hxs hLs hk573 h
    · replace h := jneg c156 h
      refine ev_seg (o := 10) (nL := 22) (q := 1130) (xs := [(.iload 21, 2, 21, 0, .null), (.iconst (-1), 1, 0, 0, .int (-1))]) (L' := [some (.ref 0), some (.ref 2), some (.ref 93), some (.ref 94), some (.ref 95), none, some (.ref 96), some (.ref 97), some (.ref 98), some (.ref 99), some (.ref 100), some (.int x11), some (.int x12), some (.int x13), some (.int x14), none, some (.int x16), none, some (.int x18), some (.int x19), none, some (.int x21)]) (st' := [.int (-1), .int x21]) (w' := w) (g := []) (K := []) (by decide +kernel) rfl rfl rfl rfl jk0 ?_
      refine ev_icmp_eq (off := 5) (tgt := 1135) (by decide +kernel) (by decide) (fun c155 => ?_) (fun c155 => ?_)
      · replace h := jpos c155 h
        refine ev_mask [true, true, true, true, true, false, true, true, true, true, true, true, true, true, true, false, true, false, true, false, false, true] ?_
        exact t_Law_law_j1135 hG hxs hLs hk573 h
      · replace h := jneg c155 h
        cases h
def f_Law_law_j1250 (xs : Nat → Int32) (Ls : Nat) (k573 : Int32 → Int32 → Int32 → Int32 → jW → Option (Int32 × jW)) (x11 : Int32) (x12 : Int32) (x13 : Int32) (x14 : Int32) (x16 : Int32) (x17 : Int32) (x20 : Int32) (s0 : Int32) (s1 : Int32) (w : jW) : Option (Int32 × jW) :=
  if s1 = s0 then
    if x20 = 0 then
      k573 x11 x12 x13 (x14 + 1) w
    else
      if jal [jin (2 * x13) 16] = true then
      jlw ((jup w.1 100 (Int32.toNatClampNeg (2 * x13)) x17), w.2) fun w167 =>
      if jal [jin ((2 * x13) + 1) 16] = true then
      jlw ((jup w167.1 100 (Int32.toNatClampNeg ((2 * x13) + 1)) x16), w167.2) fun w169 =>
      k573 x11 x12 (x13 + 1) (x14 + 1) w169
      else none else none
  else
    none
set_option maxRecDepth 20000 in
set_option maxHeartbeats 40000000 in
theorem t_Law_law_j1250 {l : Launch} {G : jG} (hG : jX G) {xs : Nat → Int32} {Ls : Nat} (hxs : True) (hLs : jscr G Ls xs) {k573 : Int32 → Int32 → Int32 → Int32 → jW → Option (Int32 × jW)} (hk573 : ∀ (x11 : Int32) (x12 : Int32) (x13 : Int32) (x14 : Int32) (w : jW) (z : (Int32 × jW)), k573 x11 x12 x13 x14 w = some z → Ev l G room_1 y_Law_law (some (.int z.1), (jRx 105), z.2) 600000 7302250 99 22331 573 [some (.ref 0), some (.ref 2), some (.ref 93), some (.ref 94), some (.ref 95), none, some (.ref 96), some (.ref 97), some (.ref 98), some (.ref 99), some (.ref 100), some (.int x11), some (.int x12), some (.int x13), some (.int x14), none, none, none, none, none, none, none] [] (jRx 101) w) {x11 : Int32} {x12 : Int32} {x13 : Int32} {x14 : Int32} {x16 : Int32} {x17 : Int32} {x20 : Int32} {s0 : Int32} {s1 : Int32} {w : jW} {z : (Int32 × jW)} (h : f_Law_law_j1250 xs Ls k573 x11 x12 x13 x14 x16 x17 x20 s0 s1 w = some z) : Ev l G room_1 y_Law_law (some (.int z.1), (jRx 105), z.2) 600000 7302250 99 22331 1250 [some (.ref 0), some (.ref 2), some (.ref 93), some (.ref 94), some (.ref 95), none, some (.ref 96), some (.ref 97), some (.ref 98), some (.ref 99), some (.ref 100), some (.int x11), some (.int x12), some (.int x13), some (.int x14), none, some (.int x16), some (.int x17), none, none, some (.int x20), none] [.int s0, .int s1] (jRx 101) w := by
  rw [f_Law_law_j1250] at h
  refine ev_icmp_eq (off := 5) (tgt := 1255) (by decide +kernel) (by decide) (fun c171 => ?_) (fun c171 => ?_)
  · replace h := jpos c171 h
    refine ev_seg (o := 10) (nL := 22) (q := 1257) (xs := [(.iload 20, 2, 20, 0, .null)]) (L' := [some (.ref 0), some (.ref 2), some (.ref 93), some (.ref 94), some (.ref 95), none, some (.ref 96), some (.ref 97), some (.ref 98), some (.ref 99), some (.ref 100), some (.int x11), some (.int x12), some (.int x13), some (.int x14), none, some (.int x16), some (.int x17), none, none, some (.int x20), none]) (st' := [.int x20]) (w' := w) (g := []) (K := []) (by decide +kernel) rfl rfl rfl rfl jk0 ?_
    refine ev_if_ne (off := 6) (tgt := 1263) (by decide +kernel) (by decide) (fun c170 => ?_) (fun c170 => ?_)
    · replace h := jneg c170 h
      obtain ⟨hg166, h⟩ := jgd h
      refine ev_seg (o := 10) (nL := 22) (q := 1272) (xs := [(.aload 10, 2, 10, 0, .null), (.iconst 2, 1, 0, 0, .int 2), (.iload 13, 2, 13, 0, .null), (.imul, 1, 0, 0, .null), (.iload 17, 2, 17, 0, .null), (.iastore, 1, 0, 0, .null)]) (L' := [some (.ref 0), some (.ref 2), some (.ref 93), some (.ref 94), some (.ref 95), none, some (.ref 96), some (.ref 97), some (.ref 98), some (.ref 99), some (.ref 100), some (.int x11), some (.int x12), some (.int x13), some (.int x14), none, some (.int x16), some (.int x17), none, none, some (.int x20), none]) (st' := []) (w' := ((jup w.1 100 (Int32.toNatClampNeg (2 * x13)) x17), w.2)) (g := [jin (2 * x13) 16]) (K := [(100, 20)]) (by decide +kernel) rfl rfl rfl hg166 (jk1 (rfl) jk0) ?_
      refine jlw_c (P := fun w167 => Ev l G room_1 y_Law_law (some (.int z.1), (jRx 105), z.2) 600000 7302250 99 22331 1272 [some (.ref 0), some (.ref 2), some (.ref 93), some (.ref 94), some (.ref 95), none, some (.ref 96), some (.ref 97), some (.ref 98), some (.ref 99), some (.ref 100), some (.int x11), some (.int x12), some (.int x13), some (.int x14), none, some (.int x16), some (.int x17), none, none, some (.int x20), none] [] (jRx 101) w167) h fun w167 h => ?_
      obtain ⟨hg168, h⟩ := jgd h
      refine ev_seg (o := 10) (nL := 22) (q := 1283) (xs := [(.aload 10, 2, 10, 0, .null), (.iconst 2, 1, 0, 0, .int 2), (.iload 13, 2, 13, 0, .null), (.imul, 1, 0, 0, .null), (.iconst 1, 1, 0, 0, .int 1), (.iadd, 1, 0, 0, .null), (.iload 16, 2, 16, 0, .null), (.iastore, 1, 0, 0, .null)]) (L' := [some (.ref 0), some (.ref 2), some (.ref 93), some (.ref 94), some (.ref 95), none, some (.ref 96), some (.ref 97), some (.ref 98), some (.ref 99), some (.ref 100), some (.int x11), some (.int x12), some (.int x13), some (.int x14), none, some (.int x16), some (.int x17), none, none, some (.int x20), none]) (st' := []) (w' := ((jup w167.1 100 (Int32.toNatClampNeg ((2 * x13) + 1)) x16), w167.2)) (g := [jin ((2 * x13) + 1) 16]) (K := [(100, 20)]) (by decide +kernel) rfl rfl rfl hg168 (jk1 (rfl) jk0) ?_
      refine jlw_c (P := fun w169 => Ev l G room_1 y_Law_law (some (.int z.1), (jRx 105), z.2) 600000 7302250 99 22331 1283 [some (.ref 0), some (.ref 2), some (.ref 93), some (.ref 94), some (.ref 95), none, some (.ref 96), some (.ref 97), some (.ref 98), some (.ref 99), some (.ref 100), some (.int x11), some (.int x12), some (.int x13), some (.int x14), none, some (.int x16), some (.int x17), none, none, some (.int x20), none] [] (jRx 101) w169) h fun w169 h => ?_
      refine ev_seg (o := 10) (nL := 22) (q := 573) (xs := [(.iinc 13 1, 3, 13, 0, .int 1), (.goto 60, 3, 0, 0, .null), (.iinc 14 1, 3, 14, 0, .int 1), (.goto (-776), 3, 0, 0, .null)]) (L' := [some (.ref 0), some (.ref 2), some (.ref 93), some (.ref 94), some (.ref 95), none, some (.ref 96), some (.ref 97), some (.ref 98), some (.ref 99), some (.ref 100), some (.int x11), some (.int x12), some (.int (x13 + 1)), some (.int (x14 + 1)), none, some (.int x16), some (.int x17), none, none, some (.int x20), none]) (st' := []) (w' := w169) (g := []) (K := []) (by decide +kernel) rfl rfl rfl rfl jk0 ?_
      refine ev_mask [true, true, true, true, true, false, true, true, true, true, true, true, true, true, true, false, false, false, false, false, false, false] ?_
      exact hk573 _ _ _ _ _ _ h
    · replace h := jpos c170 h
      refine ev_seg (o := 10) (nL := 22) (q := 573) (xs := [(.goto 86, 3, 0, 0, .null), (.iinc 14 1, 3, 14, 0, .int 1), (.goto (-776), 3, 0, 0, .null)]) (L' := [some (.ref 0), some (.ref 2), some (.ref 93), some (.ref 94), some (.ref 95), none, some (.ref 96), some (.ref 97), some (.ref 98), some (.ref 99), some (.ref 100), some (.int x11), some (.int x12), some (.int x13), some (.int (x14 + 1)), none, some (.int x16), some (.int x17), none, none, some (.int x20), none]) (st' := []) (w' := w) (g := []) (K := []) (by decide +kernel) rfl rfl rfl rfl jk0 ?_
      refine ev_mask [true, true, true, true, true, false, true, true, true, true, true, true, true, true, true, false, false, false, false, false, false, false] ?_
      exact hk573 _ _ _ _ _ _ h
  · replace h := jneg c171 h
    cases h
def f_Law_law_j1231 (xs : Nat → Int32) (Ls : Nat) (k573 : Int32 → Int32 → Int32 → Int32 → jW → Option (Int32 × jW)) (x11 : Int32) (x12 : Int32) (x13 : Int32) (x14 : Int32) (x16 : Int32) (x17 : Int32) (s0 : Int32) (w : jW) : Option (Int32 × jW) :=
  Option.bind (f_Count_seal x17 w) fun q165 =>
  if s0 = 0 then
    f_Law_law_j1250 xs Ls k573 x11 x12 x13 x14 x16 x17 s0 (-1) q165.1 q165.2
  else
    f_Law_law_j1250 xs Ls k573 x11 x12 x13 x14 x16 x17 s0 x13 q165.1 q165.2
set_option maxRecDepth 20000 in
set_option maxHeartbeats 40000000 in
theorem t_Law_law_j1231 {l : Launch} {G : jG} (hG : jX G) {xs : Nat → Int32} {Ls : Nat} (hxs : True) (hLs : jscr G Ls xs) {k573 : Int32 → Int32 → Int32 → Int32 → jW → Option (Int32 × jW)} (hk573 : ∀ (x11 : Int32) (x12 : Int32) (x13 : Int32) (x14 : Int32) (w : jW) (z : (Int32 × jW)), k573 x11 x12 x13 x14 w = some z → Ev l G room_1 y_Law_law (some (.int z.1), (jRx 105), z.2) 600000 7302250 99 22331 573 [some (.ref 0), some (.ref 2), some (.ref 93), some (.ref 94), some (.ref 95), none, some (.ref 96), some (.ref 97), some (.ref 98), some (.ref 99), some (.ref 100), some (.int x11), some (.int x12), some (.int x13), some (.int x14), none, none, none, none, none, none, none] [] (jRx 101) w) {x11 : Int32} {x12 : Int32} {x13 : Int32} {x14 : Int32} {x16 : Int32} {x17 : Int32} {s0 : Int32} {w : jW} {z : (Int32 × jW)} (h : f_Law_law_j1231 xs Ls k573 x11 x12 x13 x14 x16 x17 s0 w = some z) : Ev l G room_1 y_Law_law (some (.int z.1), (jRx 105), z.2) 600000 7302250 99 22331 1231 [some (.ref 0), some (.ref 2), some (.ref 93), some (.ref 94), some (.ref 95), none, some (.ref 96), some (.ref 97), some (.ref 98), some (.ref 99), some (.ref 100), some (.int x11), some (.int x12), some (.int x13), some (.int x14), none, some (.int x16), some (.int x17), none, none, none, none] [.int s0] (jRx 101) w := by
  rw [f_Law_law_j1231] at h
  refine ev_seg (o := 10) (nL := 22) (q := 1236) (xs := [(.istore 20, 2, 20, 0, .null), (.aload_n 1, 1, 1, 0, .null), (.iload 17, 2, 17, 0, .null)]) (L' := [some (.ref 0), some (.ref 2), some (.ref 93), some (.ref 94), some (.ref 95), none, some (.ref 96), some (.ref 97), some (.ref 98), some (.ref 99), some (.ref 100), some (.int x11), some (.int x12), some (.int x13), some (.int x14), none, some (.int x16), some (.int x17), none, none, some (.int s0), none]) (st' := [.int x17, .ref 2]) (w' := w) (g := []) (K := []) (by decide +kernel) rfl rfl rfl rfl jk0 ?_
  obtain ⟨q165, hq165, h⟩ := jbe h
  refine ev_callV (ci := 9) (a := 2) (y2 := y_Count_seal) (o := 10) (idx := 63) (d2 := d_Count_seal) (n := 1) (mc2 := 0) (ms2 := 0) (As := [.int x17]) (st := []) (res2 := (some (.int q165.1), (jRx 101), q165.2)) (by decide +kernel) rfl lk_10_63 mo_Count_seal mv_Count_seal ⟨Nat.le_of_ble_eq_true rfl, Nat.le_of_ble_eq_true rfl⟩ rfl rfl (kz_2 (Nat.le_of_ble_eq_true rfl)) (by decide) rfl (Nat.le_of_ble_eq_true rfl) ⟨Nat.le_of_ble_eq_true rfl, Nat.le_of_ble_eq_true rfl⟩ hG (e_Count_seal hG (Nat.le_of_ble_eq_true rfl) hq165) ?_
  refine ev_seg (o := 10) (nL := 22) (q := 1241) (xs := [(.iload 20, 2, 20, 0, .null)]) (L' := [some (.ref 0), some (.ref 2), some (.ref 93), some (.ref 94), some (.ref 95), none, some (.ref 96), some (.ref 97), some (.ref 98), some (.ref 99), some (.ref 100), some (.int x11), some (.int x12), some (.int x13), some (.int x14), none, some (.int x16), some (.int x17), none, none, some (.int s0), none]) (st' := [.int s0, .int q165.1]) (w' := q165.2) (g := []) (K := []) (by decide +kernel) rfl rfl rfl rfl jk0 ?_
  refine ev_if_eq (off := 8) (tgt := 1249) (by decide +kernel) (by decide) (fun c172 => ?_) (fun c172 => ?_)
  · replace h := jpos c172 h
    refine ev_seg (o := 10) (nL := 22) (q := 1250) (xs := [(.iconst (-1), 1, 0, 0, .int (-1))]) (L' := [some (.ref 0), some (.ref 2), some (.ref 93), some (.ref 94), some (.ref 95), none, some (.ref 96), some (.ref 97), some (.ref 98), some (.ref 99), some (.ref 100), some (.int x11), some (.int x12), some (.int x13), some (.int x14), none, some (.int x16), some (.int x17), none, none, some (.int s0), none]) (st' := [.int (-1), .int q165.1]) (w' := q165.2) (g := []) (K := []) (by decide +kernel) rfl rfl rfl rfl jk0 ?_
    refine ev_mask [true, true, true, true, true, false, true, true, true, true, true, true, true, true, true, false, true, true, false, false, true, false] ?_
    exact t_Law_law_j1250 hG hxs hLs hk573 h
  · replace h := jneg c172 h
    refine ev_seg (o := 10) (nL := 22) (q := 1250) (xs := [(.iload 13, 2, 13, 0, .null), (.goto 4, 3, 0, 0, .null)]) (L' := [some (.ref 0), some (.ref 2), some (.ref 93), some (.ref 94), some (.ref 95), none, some (.ref 96), some (.ref 97), some (.ref 98), some (.ref 99), some (.ref 100), some (.int x11), some (.int x12), some (.int x13), some (.int x14), none, some (.int x16), some (.int x17), none, none, some (.int s0), none]) (st' := [.int x13, .int q165.1]) (w' := q165.2) (g := []) (K := []) (by decide +kernel) rfl rfl rfl rfl jk0 ?_
    refine ev_mask [true, true, true, true, true, false, true, true, true, true, true, true, true, true, true, false, true, true, false, false, true, false] ?_
    exact t_Law_law_j1250 hG hxs hLs hk573 h
def f_Law_law_j1226 (xs : Nat → Int32) (Ls : Nat) (k573 : Int32 → Int32 → Int32 → Int32 → jW → Option (Int32 × jW)) (x11 : Int32) (x12 : Int32) (x13 : Int32) (x14 : Int32) (x16 : Int32) (x17 : Int32) (w : jW) : Option (Int32 × jW) :=
  f_Law_law_j1231 xs Ls k573 x11 x12 x13 x14 x16 x17 1 w
set_option maxRecDepth 20000 in
set_option maxHeartbeats 40000000 in
theorem t_Law_law_j1226 {l : Launch} {G : jG} (hG : jX G) {xs : Nat → Int32} {Ls : Nat} (hxs : True) (hLs : jscr G Ls xs) {k573 : Int32 → Int32 → Int32 → Int32 → jW → Option (Int32 × jW)} (hk573 : ∀ (x11 : Int32) (x12 : Int32) (x13 : Int32) (x14 : Int32) (w : jW) (z : (Int32 × jW)), k573 x11 x12 x13 x14 w = some z → Ev l G room_1 y_Law_law (some (.int z.1), (jRx 105), z.2) 600000 7302250 99 22331 573 [some (.ref 0), some (.ref 2), some (.ref 93), some (.ref 94), some (.ref 95), none, some (.ref 96), some (.ref 97), some (.ref 98), some (.ref 99), some (.ref 100), some (.int x11), some (.int x12), some (.int x13), some (.int x14), none, none, none, none, none, none, none] [] (jRx 101) w) {x11 : Int32} {x12 : Int32} {x13 : Int32} {x14 : Int32} {x16 : Int32} {x17 : Int32} {w : jW} {z : (Int32 × jW)} (h : f_Law_law_j1226 xs Ls k573 x11 x12 x13 x14 x16 x17 w = some z) : Ev l G room_1 y_Law_law (some (.int z.1), (jRx 105), z.2) 600000 7302250 99 22331 1226 [some (.ref 0), some (.ref 2), some (.ref 93), some (.ref 94), some (.ref 95), none, some (.ref 96), some (.ref 97), some (.ref 98), some (.ref 99), some (.ref 100), some (.int x11), some (.int x12), some (.int x13), some (.int x14), none, some (.int x16), some (.int x17), none, none, none, none] [] (jRx 101) w := by
  rw [f_Law_law_j1226] at h
  refine ev_seg (o := 10) (nL := 22) (q := 1231) (xs := [(.iconst 1, 1, 0, 0, .int 1), (.goto 4, 3, 0, 0, .null)]) (L' := [some (.ref 0), some (.ref 2), some (.ref 93), some (.ref 94), some (.ref 95), none, some (.ref 96), some (.ref 97), some (.ref 98), some (.ref 99), some (.ref 100), some (.int x11), some (.int x12), some (.int x13), some (.int x14), none, some (.int x16), some (.int x17), none, none, none, none]) (st' := [.int 1]) (w' := w) (g := []) (K := []) (by decide +kernel) rfl rfl rfl rfl jk0 ?_
  refine ev_mask [true, true, true, true, true, false, true, true, true, true, true, true, true, true, true, false, true, true, false, false, false, false] ?_
  exact t_Law_law_j1231 hG hxs hLs hk573 h
def f_Law_law_h1171 (xs : Nat → Int32) (Ls : Nat) (k573 : Int32 → Int32 → Int32 → Int32 → jW → Option (Int32 × jW)) : Nat → Int32 → Int32 → Int32 → Int32 → Int32 → Int32 → Int32 → Int32 → jW → Option (Int32 × jW)
  | 0, _, _, _, _, _, _, _, _, _ => none
  | n + 1, x11, x12, x13, x14, x16, x17, x19, x20, w =>
  if x20 < x13 then
    if jal [jin (2 * x20) 16] = true then
    if (w.1 100 (Int32.toNatClampNeg (2 * x20))) = x17 then
      (f_Law_law_h1171 xs Ls k573 n) x11 x12 x13 x14 x16 x17 x20 (x20 + 1) w
    else
      (f_Law_law_h1171 xs Ls k573 n) x11 x12 x13 x14 x16 x17 x19 (x20 + 1) w
    else none
  else
    if x19 < 0 then
      f_Law_law_j1226 xs Ls k573 x11 x12 x13 x14 x16 x17 w
    else
      Option.bind (f_Law_whole x19 x12 x16 w) fun q173 =>
      if q173.1 = 0 then
        f_Law_law_j1226 xs Ls k573 x11 x12 x13 x14 x16 x17 q173.2
      else
        f_Law_law_j1231 xs Ls k573 x11 x12 x13 x14 x16 x17 0 q173.2
set_option maxRecDepth 20000 in
set_option maxHeartbeats 40000000 in
theorem t_Law_law_h1171 {l : Launch} {G : jG} (hG : jX G) {xs : Nat → Int32} {Ls : Nat} (hxs : True) (hLs : jscr G Ls xs) {k573 : Int32 → Int32 → Int32 → Int32 → jW → Option (Int32 × jW)} (hk573 : ∀ (x11 : Int32) (x12 : Int32) (x13 : Int32) (x14 : Int32) (w : jW) (z : (Int32 × jW)), k573 x11 x12 x13 x14 w = some z → Ev l G room_1 y_Law_law (some (.int z.1), (jRx 105), z.2) 600000 7302250 99 22331 573 [some (.ref 0), some (.ref 2), some (.ref 93), some (.ref 94), some (.ref 95), none, some (.ref 96), some (.ref 97), some (.ref 98), some (.ref 99), some (.ref 100), some (.int x11), some (.int x12), some (.int x13), some (.int x14), none, none, none, none, none, none, none] [] (jRx 101) w) : ∀ (n : Nat) (x11 : Int32) (x12 : Int32) (x13 : Int32) (x14 : Int32) (x16 : Int32) (x17 : Int32) (x19 : Int32) (x20 : Int32) (w : jW) (z : (Int32 × jW)), f_Law_law_h1171 xs Ls k573 n x11 x12 x13 x14 x16 x17 x19 x20 w = some z → Ev l G room_1 y_Law_law (some (.int z.1), (jRx 105), z.2) 600000 7302250 99 22331 1171 [some (.ref 0), some (.ref 2), some (.ref 93), some (.ref 94), some (.ref 95), none, some (.ref 96), some (.ref 97), some (.ref 98), some (.ref 99), some (.ref 100), some (.int x11), some (.int x12), some (.int x13), some (.int x14), none, some (.int x16), some (.int x17), none, some (.int x19), some (.int x20), none] [] (jRx 101) w := by
  intro n
  induction n with
  | zero => intro x11 x12 x13 x14 x16 x17 x19 x20 w z h; simp only [f_Law_law_h1171] at h; cases h
  | succ n ih =>
    intro x11 x12 x13 x14 x16 x17 x19 x20 w z h
    rw [f_Law_law_h1171] at h
    refine ev_seg (o := 10) (nL := 22) (q := 1175) (xs := [(.iload 20, 2, 20, 0, .null), (.iload 13, 2, 13, 0, .null)]) (L' := [some (.ref 0), some (.ref 2), some (.ref 93), some (.ref 94), some (.ref 95), none, some (.ref 96), some (.ref 97), some (.ref 98), some (.ref 99), some (.ref 100), some (.int x11), some (.int x12), some (.int x13), some (.int x14), none, some (.int x16), some (.int x17), none, some (.int x19), some (.int x20), none]) (st' := [.int x13, .int x20]) (w' := w) (g := []) (K := []) (by decide +kernel) rfl rfl rfl rfl jk0 ?_
    refine ev_icmp_ge (off := 30) (tgt := 1205) (by decide +kernel) (by decide) (fun c178 => ?_) (fun c178 => ?_)
    · replace h := jneg c178 h
      refine ev_seg (o := 10) (nL := 22) (q := 1207) (xs := [(.iload 19, 2, 19, 0, .null)]) (L' := [some (.ref 0), some (.ref 2), some (.ref 93), some (.ref 94), some (.ref 95), none, some (.ref 96), some (.ref 97), some (.ref 98), some (.ref 99), some (.ref 100), some (.int x11), some (.int x12), some (.int x13), some (.int x14), none, some (.int x16), some (.int x17), none, some (.int x19), some (.int x20), none]) (st' := [.int x19]) (w' := w) (g := []) (K := []) (by decide +kernel) rfl rfl rfl rfl jk0 ?_
      refine ev_if_lt (off := 19) (tgt := 1226) (by decide +kernel) (by decide) (fun c175 => ?_) (fun c175 => ?_)
      · replace h := jpos c175 h
        refine ev_mask [true, true, true, true, true, false, true, true, true, true, true, true, true, true, true, false, true, true, false, false, false, false] ?_
        exact t_Law_law_j1226 hG hxs hLs hk573 h
      · replace h := jneg c175 h
        refine ev_seg (o := 10) (nL := 22) (q := 1220) (xs := [(.aload 10, 2, 10, 0, .null), (.iload 19, 2, 19, 0, .null), (.aload 9, 2, 9, 0, .null), (.iload 12, 2, 12, 0, .null), (.iload 16, 2, 16, 0, .null)]) (L' := [some (.ref 0), some (.ref 2), some (.ref 93), some (.ref 94), some (.ref 95), none, some (.ref 96), some (.ref 97), some (.ref 98), some (.ref 99), some (.ref 100), some (.int x11), some (.int x12), some (.int x13), some (.int x14), none, some (.int x16), some (.int x17), none, some (.int x19), some (.int x20), none]) (st' := [.int x16, .int x12, .ref 99, .int x19, .ref 100]) (w' := w) (g := []) (K := []) (by decide +kernel) rfl rfl rfl rfl jk0 ?_
        obtain ⟨q173, hq173, h⟩ := jbe h
        refine ev_callS (y2 := y_Law_whole) (o := 10) (idx := 59) (d2 := d_Law_whole) (n := 5) (mc2 := 0) (ms2 := 0) (As := [.ref 100, .int x19, .ref 99, .int x12, .int x16]) (st := []) (res2 := (some (.int q173.1), (jRx 101), q173.2)) (by decide +kernel) rfl lk_10_59 mo_Law_whole ms_Law_whole ⟨Nat.le_of_ble_eq_true rfl, Nat.le_of_ble_eq_true rfl⟩ rfl rfl (Nat.le_of_ble_eq_true rfl) ⟨Nat.le_of_ble_eq_true rfl, Nat.le_of_ble_eq_true rfl⟩ hG (e_Law_whole hG hq173) ?_
        refine ev_if_ne (off := 7) (tgt := 1230) (by decide +kernel) (by decide) (fun c174 => ?_) (fun c174 => ?_)
        · replace h := jneg c174 h
          refine ev_seg (o := 10) (nL := 22) (q := 1231) (xs := [(.iconst 0, 1, 0, 0, .int 0)]) (L' := [some (.ref 0), some (.ref 2), some (.ref 93), some (.ref 94), some (.ref 95), none, some (.ref 96), some (.ref 97), some (.ref 98), some (.ref 99), some (.ref 100), some (.int x11), some (.int x12), some (.int x13), some (.int x14), none, some (.int x16), some (.int x17), none, some (.int x19), some (.int x20), none]) (st' := [.int 0]) (w' := q173.2) (g := []) (K := []) (by decide +kernel) rfl rfl rfl rfl jk0 ?_
          refine ev_mask [true, true, true, true, true, false, true, true, true, true, true, true, true, true, true, false, true, true, false, false, false, false] ?_
          exact t_Law_law_j1231 hG hxs hLs hk573 h
        · replace h := jpos c174 h
          refine ev_mask [true, true, true, true, true, false, true, true, true, true, true, true, true, true, true, false, true, true, false, false, false, false] ?_
          exact t_Law_law_j1226 hG hxs hLs hk573 h
    · replace h := jpos c178 h
      obtain ⟨hg176, h⟩ := jgd h
      refine ev_seg (o := 10) (nL := 22) (q := 1187) (xs := [(.aload 10, 2, 10, 0, .null), (.iconst 2, 1, 0, 0, .int 2), (.iload 20, 2, 20, 0, .null), (.imul, 1, 0, 0, .null), (.iaload, 1, 0, 0, .null), (.iload 17, 2, 17, 0, .null)]) (L' := [some (.ref 0), some (.ref 2), some (.ref 93), some (.ref 94), some (.ref 95), none, some (.ref 96), some (.ref 97), some (.ref 98), some (.ref 99), some (.ref 100), some (.int x11), some (.int x12), some (.int x13), some (.int x14), none, some (.int x16), some (.int x17), none, some (.int x19), some (.int x20), none]) (st' := [.int x17, .int (w.1 100 (Int32.toNatClampNeg (2 * x20)))]) (w' := w) (g := [jin (2 * x20) 16]) (K := [(100, 20)]) (by decide +kernel) rfl rfl rfl hg176 (jk1 (rfl) jk0) ?_
      refine ev_icmp_ne (off := 8) (tgt := 1195) (by decide +kernel) (by decide) (fun c177 => ?_) (fun c177 => ?_)
      · replace h := jneg c177 h
        refine ev_seg (o := 10) (nL := 22) (q := 1171) (xs := [(.iload 19, 2, 19, 0, .null), (.istore 19, 2, 19, 0, .null), (.iinc 20 1, 3, 20, 0, .int 1), (.goto (-31), 3, 0, 0, .null)]) (L' := [some (.ref 0), some (.ref 2), some (.ref 93), some (.ref 94), some (.ref 95), none, some (.ref 96), some (.ref 97), some (.ref 98), some (.ref 99), some (.ref 100), some (.int x11), some (.int x12), some (.int x13), some (.int x14), none, some (.int x16), some (.int x17), none, some (.int x19), some (.int (x20 + 1)), none]) (st' := []) (w' := w) (g := []) (K := []) (by decide +kernel) rfl rfl rfl rfl jk0 ?_
        refine ev_mask [true, true, true, true, true, false, true, true, true, true, true, true, true, true, true, false, true, true, false, true, true, false] ?_
        exact ih _ _ _ _ _ _ _ _ _ _ h
      · replace h := jpos c177 h
        refine ev_seg (o := 10) (nL := 22) (q := 1171) (xs := [(.iload 20, 2, 20, 0, .null), (.goto 5, 3, 0, 0, .null), (.istore 19, 2, 19, 0, .null), (.iinc 20 1, 3, 20, 0, .int 1), (.goto (-31), 3, 0, 0, .null)]) (L' := [some (.ref 0), some (.ref 2), some (.ref 93), some (.ref 94), some (.ref 95), none, some (.ref 96), some (.ref 97), some (.ref 98), some (.ref 99), some (.ref 100), some (.int x11), some (.int x12), some (.int x13), some (.int x14), none, some (.int x16), some (.int x17), none, some (.int x20), some (.int (x20 + 1)), none]) (st' := []) (w' := w) (g := []) (K := []) (by decide +kernel) rfl rfl rfl rfl jk0 ?_
        refine ev_mask [true, true, true, true, true, false, true, true, true, true, true, true, true, true, true, false, true, true, false, true, true, false] ?_
        exact ih _ _ _ _ _ _ _ _ _ _ h
def f_Law_law_j1314 (xs : Nat → Int32) (Ls : Nat) (k573 : Int32 → Int32 → Int32 → Int32 → jW → Option (Int32 × jW)) (x11 : Int32) (x12 : Int32) (x13 : Int32) (x14 : Int32) (s0 : Int32) (s1 : Int32) (w : jW) : Option (Int32 × jW) :=
  if s1 = s0 then
    k573 x11 x12 x13 (x14 + 1) w
  else
    none
set_option maxRecDepth 20000 in
set_option maxHeartbeats 40000000 in
theorem t_Law_law_j1314 {l : Launch} {G : jG} (hG : jX G) {xs : Nat → Int32} {Ls : Nat} (hxs : True) (hLs : jscr G Ls xs) {k573 : Int32 → Int32 → Int32 → Int32 → jW → Option (Int32 × jW)} (hk573 : ∀ (x11 : Int32) (x12 : Int32) (x13 : Int32) (x14 : Int32) (w : jW) (z : (Int32 × jW)), k573 x11 x12 x13 x14 w = some z → Ev l G room_1 y_Law_law (some (.int z.1), (jRx 105), z.2) 600000 7302250 99 22331 573 [some (.ref 0), some (.ref 2), some (.ref 93), some (.ref 94), some (.ref 95), none, some (.ref 96), some (.ref 97), some (.ref 98), some (.ref 99), some (.ref 100), some (.int x11), some (.int x12), some (.int x13), some (.int x14), none, none, none, none, none, none, none] [] (jRx 101) w) {x11 : Int32} {x12 : Int32} {x13 : Int32} {x14 : Int32} {s0 : Int32} {s1 : Int32} {w : jW} {z : (Int32 × jW)} (h : f_Law_law_j1314 xs Ls k573 x11 x12 x13 x14 s0 s1 w = some z) : Ev l G room_1 y_Law_law (some (.int z.1), (jRx 105), z.2) 600000 7302250 99 22331 1314 [some (.ref 0), some (.ref 2), some (.ref 93), some (.ref 94), some (.ref 95), none, some (.ref 96), some (.ref 97), some (.ref 98), some (.ref 99), some (.ref 100), some (.int x11), some (.int x12), some (.int x13), some (.int x14), none, none, none, none, none, none, none] [.int s0, .int s1] (jRx 101) w := by
  rw [f_Law_law_j1314] at h
  refine ev_icmp_eq (off := 32) (tgt := 1346) (by decide +kernel) (by decide) (fun c182 => ?_) (fun c182 => ?_)
  · replace h := jpos c182 h
    refine ev_seg (o := 10) (nL := 22) (q := 573) (xs := [(.iinc 14 1, 3, 14, 0, .int 1), (.goto (-776), 3, 0, 0, .null)]) (L' := [some (.ref 0), some (.ref 2), some (.ref 93), some (.ref 94), some (.ref 95), none, some (.ref 96), some (.ref 97), some (.ref 98), some (.ref 99), some (.ref 100), some (.int x11), some (.int x12), some (.int x13), some (.int (x14 + 1)), none, none, none, none, none, none, none]) (st' := []) (w' := w) (g := []) (K := []) (by decide +kernel) rfl rfl rfl rfl jk0 ?_
    refine ev_mask [true, true, true, true, true, false, true, true, true, true, true, true, true, true, true, false, false, false, false, false, false, false] ?_
    exact hk573 _ _ _ _ _ _ h
  · replace h := jneg c182 h
    cases h
def f_Law_law_j1304 (xs : Nat → Int32) (Ls : Nat) (k573 : Int32 → Int32 → Int32 → Int32 → jW → Option (Int32 × jW)) (x11 : Int32) (x12 : Int32) (x13 : Int32) (x14 : Int32) (x16 : Int32) (s0 : Int32) (w : jW) : Option (Int32 × jW) :=
  if x16 = 0 then
    f_Law_law_j1314 xs Ls k573 x11 x12 x13 x14 1 s0 w
  else
    f_Law_law_j1314 xs Ls k573 x11 x12 x13 x14 0 s0 w
set_option maxRecDepth 20000 in
set_option maxHeartbeats 40000000 in
theorem t_Law_law_j1304 {l : Launch} {G : jG} (hG : jX G) {xs : Nat → Int32} {Ls : Nat} (hxs : True) (hLs : jscr G Ls xs) {k573 : Int32 → Int32 → Int32 → Int32 → jW → Option (Int32 × jW)} (hk573 : ∀ (x11 : Int32) (x12 : Int32) (x13 : Int32) (x14 : Int32) (w : jW) (z : (Int32 × jW)), k573 x11 x12 x13 x14 w = some z → Ev l G room_1 y_Law_law (some (.int z.1), (jRx 105), z.2) 600000 7302250 99 22331 573 [some (.ref 0), some (.ref 2), some (.ref 93), some (.ref 94), some (.ref 95), none, some (.ref 96), some (.ref 97), some (.ref 98), some (.ref 99), some (.ref 100), some (.int x11), some (.int x12), some (.int x13), some (.int x14), none, none, none, none, none, none, none] [] (jRx 101) w) {x11 : Int32} {x12 : Int32} {x13 : Int32} {x14 : Int32} {x16 : Int32} {s0 : Int32} {w : jW} {z : (Int32 × jW)} (h : f_Law_law_j1304 xs Ls k573 x11 x12 x13 x14 x16 s0 w = some z) : Ev l G room_1 y_Law_law (some (.int z.1), (jRx 105), z.2) 600000 7302250 99 22331 1304 [some (.ref 0), some (.ref 2), some (.ref 93), some (.ref 94), some (.ref 95), none, some (.ref 96), some (.ref 97), some (.ref 98), some (.ref 99), some (.ref 100), some (.int x11), some (.int x12), some (.int x13), some (.int x14), none, some (.int x16), none, none, none, none, none] [.int s0] (jRx 101) w := by
  rw [f_Law_law_j1304] at h
  refine ev_seg (o := 10) (nL := 22) (q := 1306) (xs := [(.iload 16, 2, 16, 0, .null)]) (L' := [some (.ref 0), some (.ref 2), some (.ref 93), some (.ref 94), some (.ref 95), none, some (.ref 96), some (.ref 97), some (.ref 98), some (.ref 99), some (.ref 100), some (.int x11), some (.int x12), some (.int x13), some (.int x14), none, some (.int x16), none, none, none, none, none]) (st' := [.int x16, .int s0]) (w' := w) (g := []) (K := []) (by decide +kernel) rfl rfl rfl rfl jk0 ?_
  refine ev_if_ne (off := 7) (tgt := 1313) (by decide +kernel) (by decide) (fun c183 => ?_) (fun c183 => ?_)
  · replace h := jneg c183 h
    refine ev_seg (o := 10) (nL := 22) (q := 1314) (xs := [(.iconst 0, 1, 0, 0, .int 0)]) (L' := [some (.ref 0), some (.ref 2), some (.ref 93), some (.ref 94), some (.ref 95), none, some (.ref 96), some (.ref 97), some (.ref 98), some (.ref 99), some (.ref 100), some (.int x11), some (.int x12), some (.int x13), some (.int x14), none, some (.int x16), none, none, none, none, none]) (st' := [.int 0, .int s0]) (w' := w) (g := []) (K := []) (by decide +kernel) rfl rfl rfl rfl jk0 ?_
    refine ev_mask [true, true, true, true, true, false, true, true, true, true, true, true, true, true, true, false, false, false, false, false, false, false] ?_
    exact t_Law_law_j1314 hG hxs hLs hk573 h
  · replace h := jpos c183 h
    refine ev_seg (o := 10) (nL := 22) (q := 1314) (xs := [(.iconst 1, 1, 0, 0, .int 1), (.goto 4, 3, 0, 0, .null)]) (L' := [some (.ref 0), some (.ref 2), some (.ref 93), some (.ref 94), some (.ref 95), none, some (.ref 96), some (.ref 97), some (.ref 98), some (.ref 99), some (.ref 100), some (.int x11), some (.int x12), some (.int x13), some (.int x14), none, some (.int x16), none, none, none, none, none]) (st' := [.int 1, .int s0]) (w' := w) (g := []) (K := []) (by decide +kernel) rfl rfl rfl rfl jk0 ?_
    refine ev_mask [true, true, true, true, true, false, true, true, true, true, true, true, true, true, true, false, false, false, false, false, false, false] ?_
    exact t_Law_law_j1314 hG hxs hLs hk573 h
def f_Law_law_j631 (xs : Nat → Int32) (Ls : Nat) (k573 : Int32 → Int32 → Int32 → Int32 → jW → Option (Int32 × jW)) (x11 : Int32) (x12 : Int32) (x13 : Int32) (x14 : Int32) (x15 : Int32) (x16 : Int32) (x17 : Int32) (s0 : Int32) (w : jW) : Option (Int32 × jW) :=
  if (x15 &&& 15) = 0 then
    if x11 = 8 then
      k573 x11 x12 x13 (x14 + 1) w
    else
      if jal [!(3 == 0)] = true then
      if x16 = 0 then
        f_Law_law_j736 xs Ls k573 x11 x12 x13 x14 x15 x16 x17 (((x15 >>> ((12 : Int32) &&& 31)) &&& 255) - ((x15 >>> ((12 : Int32) &&& 31)) &&& 255) / 3 * 3) w
      else
        if jal [jin x17 5] = true then
        if (w.1 94 (Int32.toNatClampNeg x17)) = 1 then
          f_Law_law_j736 xs Ls k573 x11 x12 x13 x14 x15 x16 x17 (((x15 >>> ((12 : Int32) &&& 31)) &&& 255) - ((x15 >>> ((12 : Int32) &&& 31)) &&& 255) / 3 * 3) w
        else
          f_Law_law_j741 xs Ls k573 x11 x12 x13 x14 x15 x16 x17 (((x15 >>> ((12 : Int32) &&& 31)) &&& 255) - ((x15 >>> ((12 : Int32) &&& 31)) &&& 255) / 3 * 3) 0 w
        else none
      else none
  else
  if (x15 &&& 15) = 1 then
    if x11 = 8 then
      k573 x11 x12 x13 (x14 + 1) w
    else
      if jal [!(3 == 0)] = true then
      if x16 = 0 then
        f_Law_law_j736 xs Ls k573 x11 x12 x13 x14 x15 x16 x17 (((x15 >>> ((12 : Int32) &&& 31)) &&& 255) - ((x15 >>> ((12 : Int32) &&& 31)) &&& 255) / 3 * 3) w
      else
        if jal [jin x17 5] = true then
        if (w.1 94 (Int32.toNatClampNeg x17)) = 1 then
          f_Law_law_j736 xs Ls k573 x11 x12 x13 x14 x15 x16 x17 (((x15 >>> ((12 : Int32) &&& 31)) &&& 255) - ((x15 >>> ((12 : Int32) &&& 31)) &&& 255) / 3 * 3) w
        else
          f_Law_law_j741 xs Ls k573 x11 x12 x13 x14 x15 x16 x17 (((x15 >>> ((12 : Int32) &&& 31)) &&& 255) - ((x15 >>> ((12 : Int32) &&& 31)) &&& 255) / 3 * 3) 0 w
        else none
      else none
  else
  if (x15 &&& 15) = 2 then
    if x11 = 8 then
      k573 x11 x12 x13 (x14 + 1) w
    else
      if jal [!(3 == 0)] = true then
      if x16 = 0 then
        f_Law_law_j736 xs Ls k573 x11 x12 x13 x14 x15 x16 x17 (((x15 >>> ((12 : Int32) &&& 31)) &&& 255) - ((x15 >>> ((12 : Int32) &&& 31)) &&& 255) / 3 * 3) w
      else
        if jal [jin x17 5] = true then
        if (w.1 94 (Int32.toNatClampNeg x17)) = 1 then
          f_Law_law_j736 xs Ls k573 x11 x12 x13 x14 x15 x16 x17 (((x15 >>> ((12 : Int32) &&& 31)) &&& 255) - ((x15 >>> ((12 : Int32) &&& 31)) &&& 255) / 3 * 3) w
        else
          f_Law_law_j741 xs Ls k573 x11 x12 x13 x14 x15 x16 x17 (((x15 >>> ((12 : Int32) &&& 31)) &&& 255) - ((x15 >>> ((12 : Int32) &&& 31)) &&& 255) / 3 * 3) 0 w
        else none
      else none
  else
  if (x15 &&& 15) = 3 then
    if x11 = 0 then
      k573 x11 x12 x13 (x14 + 1) w
    else
      if x12 = 16 then
        k573 x11 x12 x13 (x14 + 1) w
      else
        if x16 ≤ 0 then
          f_Law_law_j884 xs Ls k573 x11 x12 x13 x14 x16 x17 s0 w
        else
          if jal [jin ((4 * s0) + 1) 32] = true then
          if (w.1 98 (Int32.toNatClampNeg ((4 * s0) + 1))) = x16 then
            k573 x11 x12 x13 (x14 + 1) w
          else
            f_Law_law_j884 xs Ls k573 x11 x12 x13 x14 x16 x17 s0 w
          else none
  else
  if (x15 &&& 15) = 4 then
    if x11 = 0 then
      k573 x11 x12 x13 (x14 + 1) w
    else
      if x12 = 16 then
        k573 x11 x12 x13 (x14 + 1) w
      else
        if x16 ≤ 0 then
          f_Law_law_j884 xs Ls k573 x11 x12 x13 x14 x16 x17 s0 w
        else
          if jal [jin ((4 * s0) + 1) 32] = true then
          if (w.1 98 (Int32.toNatClampNeg ((4 * s0) + 1))) = x16 then
            k573 x11 x12 x13 (x14 + 1) w
          else
            f_Law_law_j884 xs Ls k573 x11 x12 x13 x14 x16 x17 s0 w
          else none
  else
  if (x15 &&& 15) = 5 then
    if x11 = 0 then
      k573 x11 x12 x13 (x14 + 1) w
    else
      if x12 = 16 then
        k573 x11 x12 x13 (x14 + 1) w
      else
        if x16 ≤ 0 then
          f_Law_law_j884 xs Ls k573 x11 x12 x13 x14 x16 x17 s0 w
        else
          if jal [jin ((4 * s0) + 1) 32] = true then
          if (w.1 98 (Int32.toNatClampNeg ((4 * s0) + 1))) = x16 then
            k573 x11 x12 x13 (x14 + 1) w
          else
            f_Law_law_j884 xs Ls k573 x11 x12 x13 x14 x16 x17 s0 w
          else none
  else
  if (x15 &&& 15) = 6 then
    if x11 = 0 then
      k573 x11 x12 x13 (x14 + 1) w
    else
      if x12 = 16 then
        k573 x11 x12 x13 (x14 + 1) w
      else
        if x16 ≤ 0 then
          f_Law_law_j884 xs Ls k573 x11 x12 x13 x14 x16 x17 s0 w
        else
          if jal [jin ((4 * s0) + 1) 32] = true then
          if (w.1 98 (Int32.toNatClampNeg ((4 * s0) + 1))) = x16 then
            k573 x11 x12 x13 (x14 + 1) w
          else
            f_Law_law_j884 xs Ls k573 x11 x12 x13 x14 x16 x17 s0 w
          else none
  else
  if (x15 &&& 15) = 7 then
    if x11 = 0 then
      k573 x11 x12 x13 (x14 + 1) w
    else
      Option.bind (f_Law_where x12 s0 x16 w) fun q148 =>
      Option.bind (f_Count_thing s0 5 q148.2) fun q149 =>
      Option.bind (f_Count_step s0 q149.2) fun q150 =>
      if q150.1 ≤ 0 then
        f_Law_law_j1112 xs Ls k573 x11 x12 x13 x14 x16 s0 q148.1 q150.1 q150.2
      else
        if q148.1 ≤ 99 then
          if jal [jin q148.1 5] = true then
          if (q150.2.1 94 (Int32.toNatClampNeg q148.1)) = 3 then
            if q150.1 = (q149.1 + 1) then
              f_Law_law_j1112 xs Ls k573 x11 x12 x13 x14 x16 s0 q148.1 q150.1 q150.2
            else
              none
          else
            none
          else none
        else
          none
  else
  if (x15 &&& 15) = 8 then
    if x13 = 8 then
      k573 x11 x12 x13 (x14 + 1) w
    else
      f_Law_law_h1171 xs Ls k573 jfu x11 x12 x13 x14 x16 x17 (-1) 0 w
  else
  if (x15 &&& 15) = 9 then
    Option.bind (f_Count_visit 1 x17 w) fun q181 =>
    if q181.1 < 0 then
      f_Law_law_j1304 xs Ls k573 x11 x12 x13 x14 x16 1 q181.2
    else
      f_Law_law_j1304 xs Ls k573 x11 x12 x13 x14 x16 0 q181.2
  else
  if (x15 &&& 15) = 10 then
    Option.bind (f_Count_visit 1 x17 w) fun q186 =>
    if q186.1 < 0 then
      f_Law_law_j1304 xs Ls k573 x11 x12 x13 x14 x16 1 q186.2
    else
      f_Law_law_j1304 xs Ls k573 x11 x12 x13 x14 x16 0 q186.2
  else
  if (x15 &&& 15) = 11 then
    Option.bind (f_Count_picture x17 w) fun q189 =>
    k573 x11 x12 x13 (x14 + 1) q189.2
  else
    Option.bind (f_Count_days (1 + ((x15 >>> ((4 : Int32) &&& 31)) &&& 3)) w) fun q71 =>
    if q71.1 < 0 then
      none
    else
      k573 x11 x12 x13 (x14 + 1) q71.2
set_option maxRecDepth 20000 in
set_option maxHeartbeats 40000000 in
theorem t_Law_law_j631 {l : Launch} {G : jG} (hG : jX G) {xs : Nat → Int32} {Ls : Nat} (hxs : True) (hLs : jscr G Ls xs) {k573 : Int32 → Int32 → Int32 → Int32 → jW → Option (Int32 × jW)} (hk573 : ∀ (x11 : Int32) (x12 : Int32) (x13 : Int32) (x14 : Int32) (w : jW) (z : (Int32 × jW)), k573 x11 x12 x13 x14 w = some z → Ev l G room_1 y_Law_law (some (.int z.1), (jRx 105), z.2) 600000 7302250 99 22331 573 [some (.ref 0), some (.ref 2), some (.ref 93), some (.ref 94), some (.ref 95), none, some (.ref 96), some (.ref 97), some (.ref 98), some (.ref 99), some (.ref 100), some (.int x11), some (.int x12), some (.int x13), some (.int x14), none, none, none, none, none, none, none] [] (jRx 101) w) {x11 : Int32} {x12 : Int32} {x13 : Int32} {x14 : Int32} {x15 : Int32} {x16 : Int32} {x17 : Int32} {s0 : Int32} {w : jW} {z : (Int32 × jW)} (h : f_Law_law_j631 xs Ls k573 x11 x12 x13 x14 x15 x16 x17 s0 w = some z) : Ev l G room_1 y_Law_law (some (.int z.1), (jRx 105), z.2) 600000 7302250 99 22331 631 [some (.ref 0), some (.ref 2), some (.ref 93), some (.ref 94), some (.ref 95), none, some (.ref 96), some (.ref 97), some (.ref 98), some (.ref 99), some (.ref 100), some (.int x11), some (.int x12), some (.int x13), some (.int x14), some (.int x15), some (.int x16), some (.int x17), none, none, none, none] [.int s0] (jRx 101) w := by
  rw [f_Law_law_j631] at h
  refine ev_seg (o := 10) (nL := 22) (q := 638) (xs := [(.istore 18, 2, 18, 0, .null), (.iload 15, 2, 15, 0, .null), (.bipush 15, 2, 0, 0, .int 15), (.iand, 1, 0, 0, .null)]) (L' := [some (.ref 0), some (.ref 2), some (.ref 93), some (.ref 94), some (.ref 95), none, some (.ref 96), some (.ref 97), some (.ref 98), some (.ref 99), some (.ref 100), some (.int x11), some (.int x12), some (.int x13), some (.int x14), some (.int x15), some (.int x16), some (.int x17), some (.int s0), none, none, none]) (st' := [.int (x15 &&& 15)]) (w' := w) (g := []) (K := []) (by decide +kernel) rfl rfl rfl rfl jk0 ?_
  by_cases c73 : (x15 &&& 15) = 0
  · replace h := jpos c73 h
    refine ev_tableIn (dflt := 691) (lo := 0) (hi := 11) (offs := #[62, 62, 62, 212, 212, 212, 212, 405, 517, 651, 651, 681]) (len := 62) (off := 62) (tgt := 700) (by decide +kernel) (by rw [c73]; decide) (by rw [c73]; decide) (by rw [c73]; decide) (by decide) ?_
    refine ev_seg (o := 10) (nL := 22) (q := 704) (xs := [(.iload 11, 2, 11, 0, .null), (.bipush 8, 2, 0, 0, .int 8)]) (L' := [some (.ref 0), some (.ref 2), some (.ref 93), some (.ref 94), some (.ref 95), none, some (.ref 96), some (.ref 97), some (.ref 98), some (.ref 99), some (.ref 100), some (.int x11), some (.int x12), some (.int x13), some (.int x14), some (.int x15), some (.int x16), some (.int x17), some (.int s0), none, none, none]) (st' := [.int 8, .int x11]) (w' := w) (g := []) (K := []) (by decide +kernel) rfl rfl rfl rfl jk0 ?_
    refine ev_icmp_ne (off := 6) (tgt := 710) (by decide +kernel) (by decide) (fun c91 => ?_) (fun c91 => ?_)
    · replace h := jneg c91 h
      obtain ⟨hg74, h⟩ := jgd h
      refine ev_seg (o := 10) (nL := 22) (q := 725) (xs := [(.iload 15, 2, 15, 0, .null), (.bipush 12, 2, 0, 0, .int 12), (.ishr, 1, 0, 0, .null), (.sipush 255, 3, 0, 0, .int 255), (.iand, 1, 0, 0, .null), (.iconst 3, 1, 0, 0, .int 3), (.irem, 1, 0, 0, .null), (.istore 19, 2, 19, 0, .null), (.iload 16, 2, 16, 0, .null)]) (L' := [some (.ref 0), some (.ref 2), some (.ref 93), some (.ref 94), some (.ref 95), none, some (.ref 96), some (.ref 97), some (.ref 98), some (.ref 99), some (.ref 100), some (.int x11), some (.int x12), some (.int x13), some (.int x14), some (.int x15), some (.int x16), some (.int x17), some (.int s0), some (.int (((x15 >>> ((12 : Int32) &&& 31)) &&& 255) - ((x15 >>> ((12 : Int32) &&& 31)) &&& 255) / 3 * 3)), none, none]) (st' := [.int x16]) (w' := w) (g := [!(3 == 0)]) (K := []) (by decide +kernel) rfl rfl rfl hg74 jk0 ?_
      refine ev_if_eq (off := 11) (tgt := 736) (by decide +kernel) (by decide) (fun c90 => ?_) (fun c90 => ?_)
      · replace h := jpos c90 h
        refine ev_mask [true, true, true, true, true, false, true, true, true, true, true, true, true, true, true, true, true, true, false, true, false, false] ?_
        exact t_Law_law_j736 hG hxs hLs hk573 h
      · replace h := jneg c90 h
        obtain ⟨hg88, h⟩ := jgd h
        refine ev_seg (o := 10) (nL := 22) (q := 733) (xs := [(.aload_n 3, 1, 3, 0, .null), (.iload 17, 2, 17, 0, .null), (.iaload, 1, 0, 0, .null), (.iconst 1, 1, 0, 0, .int 1)]) (L' := [some (.ref 0), some (.ref 2), some (.ref 93), some (.ref 94), some (.ref 95), none, some (.ref 96), some (.ref 97), some (.ref 98), some (.ref 99), some (.ref 100), some (.int x11), some (.int x12), some (.int x13), some (.int x14), some (.int x15), some (.int x16), some (.int x17), some (.int s0), some (.int (((x15 >>> ((12 : Int32) &&& 31)) &&& 255) - ((x15 >>> ((12 : Int32) &&& 31)) &&& 255) / 3 * 3)), none, none]) (st' := [.int 1, .int (w.1 94 (Int32.toNatClampNeg x17))]) (w' := w) (g := [jin x17 5]) (K := [(94, 20)]) (by decide +kernel) rfl rfl rfl hg88 (jk1 (rfl) jk0) ?_
        refine ev_icmp_ne (off := 7) (tgt := 740) (by decide +kernel) (by decide) (fun c89 => ?_) (fun c89 => ?_)
        · replace h := jneg c89 h
          refine ev_seg (o := 10) (nL := 22) (q := 741) (xs := [(.iconst 0, 1, 0, 0, .int 0)]) (L' := [some (.ref 0), some (.ref 2), some (.ref 93), some (.ref 94), some (.ref 95), none, some (.ref 96), some (.ref 97), some (.ref 98), some (.ref 99), some (.ref 100), some (.int x11), some (.int x12), some (.int x13), some (.int x14), some (.int x15), some (.int x16), some (.int x17), some (.int s0), some (.int (((x15 >>> ((12 : Int32) &&& 31)) &&& 255) - ((x15 >>> ((12 : Int32) &&& 31)) &&& 255) / 3 * 3)), none, none]) (st' := [.int 0]) (w' := w) (g := []) (K := []) (by decide +kernel) rfl rfl rfl rfl jk0 ?_
          refine ev_mask [true, true, true, true, true, false, true, true, true, true, true, true, true, true, true, true, true, true, false, true, false, false] ?_
          exact t_Law_law_j741 hG hxs hLs hk573 h
        · replace h := jpos c89 h
          refine ev_mask [true, true, true, true, true, false, true, true, true, true, true, true, true, true, true, true, true, true, false, true, false, false] ?_
          exact t_Law_law_j736 hG hxs hLs hk573 h
    · replace h := jpos c91 h
      refine ev_seg (o := 10) (nL := 22) (q := 573) (xs := [(.goto 639, 3, 0, 0, .null), (.iinc 14 1, 3, 14, 0, .int 1), (.goto (-776), 3, 0, 0, .null)]) (L' := [some (.ref 0), some (.ref 2), some (.ref 93), some (.ref 94), some (.ref 95), none, some (.ref 96), some (.ref 97), some (.ref 98), some (.ref 99), some (.ref 100), some (.int x11), some (.int x12), some (.int x13), some (.int (x14 + 1)), some (.int x15), some (.int x16), some (.int x17), some (.int s0), none, none, none]) (st' := []) (w' := w) (g := []) (K := []) (by decide +kernel) rfl rfl rfl rfl jk0 ?_
      refine ev_mask [true, true, true, true, true, false, true, true, true, true, true, true, true, true, true, false, false, false, false, false, false, false] ?_
      exact hk573 _ _ _ _ _ _ h
  · replace h := jneg c73 h
    by_cases c92 : (x15 &&& 15) = 1
    · replace h := jpos c92 h
      refine ev_tableIn (dflt := 691) (lo := 0) (hi := 11) (offs := #[62, 62, 62, 212, 212, 212, 212, 405, 517, 651, 651, 681]) (len := 62) (off := 62) (tgt := 700) (by decide +kernel) (by rw [c92]; decide) (by rw [c92]; decide) (by rw [c92]; decide) (by decide) ?_
      refine ev_seg (o := 10) (nL := 22) (q := 704) (xs := [(.iload 11, 2, 11, 0, .null), (.bipush 8, 2, 0, 0, .int 8)]) (L' := [some (.ref 0), some (.ref 2), some (.ref 93), some (.ref 94), some (.ref 95), none, some (.ref 96), some (.ref 97), some (.ref 98), some (.ref 99), some (.ref 100), some (.int x11), some (.int x12), some (.int x13), some (.int x14), some (.int x15), some (.int x16), some (.int x17), some (.int s0), none, none, none]) (st' := [.int 8, .int x11]) (w' := w) (g := []) (K := []) (by decide +kernel) rfl rfl rfl rfl jk0 ?_
      refine ev_icmp_ne (off := 6) (tgt := 710) (by decide +kernel) (by decide) (fun c97 => ?_) (fun c97 => ?_)
      · replace h := jneg c97 h
        obtain ⟨hg93, h⟩ := jgd h
        refine ev_seg (o := 10) (nL := 22) (q := 725) (xs := [(.iload 15, 2, 15, 0, .null), (.bipush 12, 2, 0, 0, .int 12), (.ishr, 1, 0, 0, .null), (.sipush 255, 3, 0, 0, .int 255), (.iand, 1, 0, 0, .null), (.iconst 3, 1, 0, 0, .int 3), (.irem, 1, 0, 0, .null), (.istore 19, 2, 19, 0, .null), (.iload 16, 2, 16, 0, .null)]) (L' := [some (.ref 0), some (.ref 2), some (.ref 93), some (.ref 94), some (.ref 95), none, some (.ref 96), some (.ref 97), some (.ref 98), some (.ref 99), some (.ref 100), some (.int x11), some (.int x12), some (.int x13), some (.int x14), some (.int x15), some (.int x16), some (.int x17), some (.int s0), some (.int (((x15 >>> ((12 : Int32) &&& 31)) &&& 255) - ((x15 >>> ((12 : Int32) &&& 31)) &&& 255) / 3 * 3)), none, none]) (st' := [.int x16]) (w' := w) (g := [!(3 == 0)]) (K := []) (by decide +kernel) rfl rfl rfl hg93 jk0 ?_
        refine ev_if_eq (off := 11) (tgt := 736) (by decide +kernel) (by decide) (fun c96 => ?_) (fun c96 => ?_)
        · replace h := jpos c96 h
          refine ev_mask [true, true, true, true, true, false, true, true, true, true, true, true, true, true, true, true, true, true, false, true, false, false] ?_
          exact t_Law_law_j736 hG hxs hLs hk573 h
        · replace h := jneg c96 h
          obtain ⟨hg94, h⟩ := jgd h
          refine ev_seg (o := 10) (nL := 22) (q := 733) (xs := [(.aload_n 3, 1, 3, 0, .null), (.iload 17, 2, 17, 0, .null), (.iaload, 1, 0, 0, .null), (.iconst 1, 1, 0, 0, .int 1)]) (L' := [some (.ref 0), some (.ref 2), some (.ref 93), some (.ref 94), some (.ref 95), none, some (.ref 96), some (.ref 97), some (.ref 98), some (.ref 99), some (.ref 100), some (.int x11), some (.int x12), some (.int x13), some (.int x14), some (.int x15), some (.int x16), some (.int x17), some (.int s0), some (.int (((x15 >>> ((12 : Int32) &&& 31)) &&& 255) - ((x15 >>> ((12 : Int32) &&& 31)) &&& 255) / 3 * 3)), none, none]) (st' := [.int 1, .int (w.1 94 (Int32.toNatClampNeg x17))]) (w' := w) (g := [jin x17 5]) (K := [(94, 20)]) (by decide +kernel) rfl rfl rfl hg94 (jk1 (rfl) jk0) ?_
          refine ev_icmp_ne (off := 7) (tgt := 740) (by decide +kernel) (by decide) (fun c95 => ?_) (fun c95 => ?_)
          · replace h := jneg c95 h
            refine ev_seg (o := 10) (nL := 22) (q := 741) (xs := [(.iconst 0, 1, 0, 0, .int 0)]) (L' := [some (.ref 0), some (.ref 2), some (.ref 93), some (.ref 94), some (.ref 95), none, some (.ref 96), some (.ref 97), some (.ref 98), some (.ref 99), some (.ref 100), some (.int x11), some (.int x12), some (.int x13), some (.int x14), some (.int x15), some (.int x16), some (.int x17), some (.int s0), some (.int (((x15 >>> ((12 : Int32) &&& 31)) &&& 255) - ((x15 >>> ((12 : Int32) &&& 31)) &&& 255) / 3 * 3)), none, none]) (st' := [.int 0]) (w' := w) (g := []) (K := []) (by decide +kernel) rfl rfl rfl rfl jk0 ?_
            refine ev_mask [true, true, true, true, true, false, true, true, true, true, true, true, true, true, true, true, true, true, false, true, false, false] ?_
            exact t_Law_law_j741 hG hxs hLs hk573 h
          · replace h := jpos c95 h
            refine ev_mask [true, true, true, true, true, false, true, true, true, true, true, true, true, true, true, true, true, true, false, true, false, false] ?_
            exact t_Law_law_j736 hG hxs hLs hk573 h
      · replace h := jpos c97 h
        refine ev_seg (o := 10) (nL := 22) (q := 573) (xs := [(.goto 639, 3, 0, 0, .null), (.iinc 14 1, 3, 14, 0, .int 1), (.goto (-776), 3, 0, 0, .null)]) (L' := [some (.ref 0), some (.ref 2), some (.ref 93), some (.ref 94), some (.ref 95), none, some (.ref 96), some (.ref 97), some (.ref 98), some (.ref 99), some (.ref 100), some (.int x11), some (.int x12), some (.int x13), some (.int (x14 + 1)), some (.int x15), some (.int x16), some (.int x17), some (.int s0), none, none, none]) (st' := []) (w' := w) (g := []) (K := []) (by decide +kernel) rfl rfl rfl rfl jk0 ?_
        refine ev_mask [true, true, true, true, true, false, true, true, true, true, true, true, true, true, true, false, false, false, false, false, false, false] ?_
        exact hk573 _ _ _ _ _ _ h
    · replace h := jneg c92 h
      by_cases c98 : (x15 &&& 15) = 2
      · replace h := jpos c98 h
        refine ev_tableIn (dflt := 691) (lo := 0) (hi := 11) (offs := #[62, 62, 62, 212, 212, 212, 212, 405, 517, 651, 651, 681]) (len := 62) (off := 62) (tgt := 700) (by decide +kernel) (by rw [c98]; decide) (by rw [c98]; decide) (by rw [c98]; decide) (by decide) ?_
        refine ev_seg (o := 10) (nL := 22) (q := 704) (xs := [(.iload 11, 2, 11, 0, .null), (.bipush 8, 2, 0, 0, .int 8)]) (L' := [some (.ref 0), some (.ref 2), some (.ref 93), some (.ref 94), some (.ref 95), none, some (.ref 96), some (.ref 97), some (.ref 98), some (.ref 99), some (.ref 100), some (.int x11), some (.int x12), some (.int x13), some (.int x14), some (.int x15), some (.int x16), some (.int x17), some (.int s0), none, none, none]) (st' := [.int 8, .int x11]) (w' := w) (g := []) (K := []) (by decide +kernel) rfl rfl rfl rfl jk0 ?_
        refine ev_icmp_ne (off := 6) (tgt := 710) (by decide +kernel) (by decide) (fun c103 => ?_) (fun c103 => ?_)
        · replace h := jneg c103 h
          obtain ⟨hg99, h⟩ := jgd h
          refine ev_seg (o := 10) (nL := 22) (q := 725) (xs := [(.iload 15, 2, 15, 0, .null), (.bipush 12, 2, 0, 0, .int 12), (.ishr, 1, 0, 0, .null), (.sipush 255, 3, 0, 0, .int 255), (.iand, 1, 0, 0, .null), (.iconst 3, 1, 0, 0, .int 3), (.irem, 1, 0, 0, .null), (.istore 19, 2, 19, 0, .null), (.iload 16, 2, 16, 0, .null)]) (L' := [some (.ref 0), some (.ref 2), some (.ref 93), some (.ref 94), some (.ref 95), none, some (.ref 96), some (.ref 97), some (.ref 98), some (.ref 99), some (.ref 100), some (.int x11), some (.int x12), some (.int x13), some (.int x14), some (.int x15), some (.int x16), some (.int x17), some (.int s0), some (.int (((x15 >>> ((12 : Int32) &&& 31)) &&& 255) - ((x15 >>> ((12 : Int32) &&& 31)) &&& 255) / 3 * 3)), none, none]) (st' := [.int x16]) (w' := w) (g := [!(3 == 0)]) (K := []) (by decide +kernel) rfl rfl rfl hg99 jk0 ?_
          refine ev_if_eq (off := 11) (tgt := 736) (by decide +kernel) (by decide) (fun c102 => ?_) (fun c102 => ?_)
          · replace h := jpos c102 h
            refine ev_mask [true, true, true, true, true, false, true, true, true, true, true, true, true, true, true, true, true, true, false, true, false, false] ?_
            exact t_Law_law_j736 hG hxs hLs hk573 h
          · replace h := jneg c102 h
            obtain ⟨hg100, h⟩ := jgd h
            refine ev_seg (o := 10) (nL := 22) (q := 733) (xs := [(.aload_n 3, 1, 3, 0, .null), (.iload 17, 2, 17, 0, .null), (.iaload, 1, 0, 0, .null), (.iconst 1, 1, 0, 0, .int 1)]) (L' := [some (.ref 0), some (.ref 2), some (.ref 93), some (.ref 94), some (.ref 95), none, some (.ref 96), some (.ref 97), some (.ref 98), some (.ref 99), some (.ref 100), some (.int x11), some (.int x12), some (.int x13), some (.int x14), some (.int x15), some (.int x16), some (.int x17), some (.int s0), some (.int (((x15 >>> ((12 : Int32) &&& 31)) &&& 255) - ((x15 >>> ((12 : Int32) &&& 31)) &&& 255) / 3 * 3)), none, none]) (st' := [.int 1, .int (w.1 94 (Int32.toNatClampNeg x17))]) (w' := w) (g := [jin x17 5]) (K := [(94, 20)]) (by decide +kernel) rfl rfl rfl hg100 (jk1 (rfl) jk0) ?_
            refine ev_icmp_ne (off := 7) (tgt := 740) (by decide +kernel) (by decide) (fun c101 => ?_) (fun c101 => ?_)
            · replace h := jneg c101 h
              refine ev_seg (o := 10) (nL := 22) (q := 741) (xs := [(.iconst 0, 1, 0, 0, .int 0)]) (L' := [some (.ref 0), some (.ref 2), some (.ref 93), some (.ref 94), some (.ref 95), none, some (.ref 96), some (.ref 97), some (.ref 98), some (.ref 99), some (.ref 100), some (.int x11), some (.int x12), some (.int x13), some (.int x14), some (.int x15), some (.int x16), some (.int x17), some (.int s0), some (.int (((x15 >>> ((12 : Int32) &&& 31)) &&& 255) - ((x15 >>> ((12 : Int32) &&& 31)) &&& 255) / 3 * 3)), none, none]) (st' := [.int 0]) (w' := w) (g := []) (K := []) (by decide +kernel) rfl rfl rfl rfl jk0 ?_
              refine ev_mask [true, true, true, true, true, false, true, true, true, true, true, true, true, true, true, true, true, true, false, true, false, false] ?_
              exact t_Law_law_j741 hG hxs hLs hk573 h
            · replace h := jpos c101 h
              refine ev_mask [true, true, true, true, true, false, true, true, true, true, true, true, true, true, true, true, true, true, false, true, false, false] ?_
              exact t_Law_law_j736 hG hxs hLs hk573 h
        · replace h := jpos c103 h
          refine ev_seg (o := 10) (nL := 22) (q := 573) (xs := [(.goto 639, 3, 0, 0, .null), (.iinc 14 1, 3, 14, 0, .int 1), (.goto (-776), 3, 0, 0, .null)]) (L' := [some (.ref 0), some (.ref 2), some (.ref 93), some (.ref 94), some (.ref 95), none, some (.ref 96), some (.ref 97), some (.ref 98), some (.ref 99), some (.ref 100), some (.int x11), some (.int x12), some (.int x13), some (.int (x14 + 1)), some (.int x15), some (.int x16), some (.int x17), some (.int s0), none, none, none]) (st' := []) (w' := w) (g := []) (K := []) (by decide +kernel) rfl rfl rfl rfl jk0 ?_
          refine ev_mask [true, true, true, true, true, false, true, true, true, true, true, true, true, true, true, false, false, false, false, false, false, false] ?_
          exact hk573 _ _ _ _ _ _ h
      · replace h := jneg c98 h
        by_cases c104 : (x15 &&& 15) = 3
        · replace h := jpos c104 h
          refine ev_tableIn (dflt := 691) (lo := 0) (hi := 11) (offs := #[62, 62, 62, 212, 212, 212, 212, 405, 517, 651, 651, 681]) (len := 62) (off := 212) (tgt := 850) (by decide +kernel) (by rw [c104]; decide) (by rw [c104]; decide) (by rw [c104]; decide) (by decide) ?_
          refine ev_seg (o := 10) (nL := 22) (q := 852) (xs := [(.iload 11, 2, 11, 0, .null)]) (L' := [some (.ref 0), some (.ref 2), some (.ref 93), some (.ref 94), some (.ref 95), none, some (.ref 96), some (.ref 97), some (.ref 98), some (.ref 99), some (.ref 100), some (.int x11), some (.int x12), some (.int x13), some (.int x14), some (.int x15), some (.int x16), some (.int x17), some (.int s0), none, none, none]) (st' := [.int x11]) (w' := w) (g := []) (K := []) (by decide +kernel) rfl rfl rfl rfl jk0 ?_
          refine ev_if_eq (off := 494) (tgt := 1346) (by decide +kernel) (by decide) (fun c128 => ?_) (fun c128 => ?_)
          · replace h := jpos c128 h
            refine ev_seg (o := 10) (nL := 22) (q := 573) (xs := [(.iinc 14 1, 3, 14, 0, .int 1), (.goto (-776), 3, 0, 0, .null)]) (L' := [some (.ref 0), some (.ref 2), some (.ref 93), some (.ref 94), some (.ref 95), none, some (.ref 96), some (.ref 97), some (.ref 98), some (.ref 99), some (.ref 100), some (.int x11), some (.int x12), some (.int x13), some (.int (x14 + 1)), some (.int x15), some (.int x16), some (.int x17), some (.int s0), none, none, none]) (st' := []) (w' := w) (g := []) (K := []) (by decide +kernel) rfl rfl rfl rfl jk0 ?_
            refine ev_mask [true, true, true, true, true, false, true, true, true, true, true, true, true, true, true, false, false, false, false, false, false, false] ?_
            exact hk573 _ _ _ _ _ _ h
          · replace h := jneg c128 h
            refine ev_seg (o := 10) (nL := 22) (q := 859) (xs := [(.iload 12, 2, 12, 0, .null), (.bipush 16, 2, 0, 0, .int 16)]) (L' := [some (.ref 0), some (.ref 2), some (.ref 93), some (.ref 94), some (.ref 95), none, some (.ref 96), some (.ref 97), some (.ref 98), some (.ref 99), some (.ref 100), some (.int x11), some (.int x12), some (.int x13), some (.int x14), some (.int x15), some (.int x16), some (.int x17), some (.int s0), none, none, none]) (st' := [.int 16, .int x12]) (w' := w) (g := []) (K := []) (by decide +kernel) rfl rfl rfl rfl jk0 ?_
            refine ev_icmp_eq (off := 487) (tgt := 1346) (by decide +kernel) (by decide) (fun c127 => ?_) (fun c127 => ?_)
            · replace h := jpos c127 h
              refine ev_seg (o := 10) (nL := 22) (q := 573) (xs := [(.iinc 14 1, 3, 14, 0, .int 1), (.goto (-776), 3, 0, 0, .null)]) (L' := [some (.ref 0), some (.ref 2), some (.ref 93), some (.ref 94), some (.ref 95), none, some (.ref 96), some (.ref 97), some (.ref 98), some (.ref 99), some (.ref 100), some (.int x11), some (.int x12), some (.int x13), some (.int (x14 + 1)), some (.int x15), some (.int x16), some (.int x17), some (.int s0), none, none, none]) (st' := []) (w' := w) (g := []) (K := []) (by decide +kernel) rfl rfl rfl rfl jk0 ?_
              refine ev_mask [true, true, true, true, true, false, true, true, true, true, true, true, true, true, true, false, false, false, false, false, false, false] ?_
              exact hk573 _ _ _ _ _ _ h
            · replace h := jneg c127 h
              refine ev_seg (o := 10) (nL := 22) (q := 864) (xs := [(.iload 16, 2, 16, 0, .null)]) (L' := [some (.ref 0), some (.ref 2), some (.ref 93), some (.ref 94), some (.ref 95), none, some (.ref 96), some (.ref 97), some (.ref 98), some (.ref 99), some (.ref 100), some (.int x11), some (.int x12), some (.int x13), some (.int x14), some (.int x15), some (.int x16), some (.int x17), some (.int s0), none, none, none]) (st' := [.int x16]) (w' := w) (g := []) (K := []) (by decide +kernel) rfl rfl rfl rfl jk0 ?_
              refine ev_if_le (off := 20) (tgt := 884) (by decide +kernel) (by decide) (fun c126 => ?_) (fun c126 => ?_)
              · replace h := jpos c126 h
                refine ev_mask [true, true, true, true, true, false, true, true, true, true, true, true, true, true, true, false, true, true, true, false, false, false] ?_
                exact t_Law_law_j884 hG hxs hLs hk573 h
              · replace h := jneg c126 h
                obtain ⟨hg124, h⟩ := jgd h
                refine ev_seg (o := 10) (nL := 22) (q := 878) (xs := [(.aload 8, 2, 8, 0, .null), (.iconst 4, 1, 0, 0, .int 4), (.iload 18, 2, 18, 0, .null), (.imul, 1, 0, 0, .null), (.iconst 1, 1, 0, 0, .int 1), (.iadd, 1, 0, 0, .null), (.iaload, 1, 0, 0, .null), (.iload 16, 2, 16, 0, .null)]) (L' := [some (.ref 0), some (.ref 2), some (.ref 93), some (.ref 94), some (.ref 95), none, some (.ref 96), some (.ref 97), some (.ref 98), some (.ref 99), some (.ref 100), some (.int x11), some (.int x12), some (.int x13), some (.int x14), some (.int x15), some (.int x16), some (.int x17), some (.int s0), none, none, none]) (st' := [.int x16, .int (w.1 98 (Int32.toNatClampNeg ((4 * s0) + 1)))]) (w' := w) (g := [jin ((4 * s0) + 1) 32]) (K := [(98, 20)]) (by decide +kernel) rfl rfl rfl hg124 (jk1 (rfl) jk0) ?_
                refine ev_icmp_ne (off := 6) (tgt := 884) (by decide +kernel) (by decide) (fun c125 => ?_) (fun c125 => ?_)
                · replace h := jneg c125 h
                  refine ev_mask [true, true, true, true, true, false, true, true, true, true, true, true, true, true, true, false, true, true, true, false, false, false] ?_
                  exact t_Law_law_j884 hG hxs hLs hk573 h
                · replace h := jpos c125 h
                  refine ev_seg (o := 10) (nL := 22) (q := 573) (xs := [(.goto 465, 3, 0, 0, .null), (.iinc 14 1, 3, 14, 0, .int 1), (.goto (-776), 3, 0, 0, .null)]) (L' := [some (.ref 0), some (.ref 2), some (.ref 93), some (.ref 94), some (.ref 95), none, some (.ref 96), some (.ref 97), some (.ref 98), some (.ref 99), some (.ref 100), some (.int x11), some (.int x12), some (.int x13), some (.int (x14 + 1)), some (.int x15), some (.int x16), some (.int x17), some (.int s0), none, none, none]) (st' := []) (w' := w) (g := []) (K := []) (by decide +kernel) rfl rfl rfl rfl jk0 ?_
                  refine ev_mask [true, true, true, true, true, false, true, true, true, true, true, true, true, true, true, false, false, false, false, false, false, false] ?_
                  exact hk573 _ _ _ _ _ _ h
        · replace h := jneg c104 h
          by_cases c129 : (x15 &&& 15) = 4
          · replace h := jpos c129 h
            refine ev_tableIn (dflt := 691) (lo := 0) (hi := 11) (offs := #[62, 62, 62, 212, 212, 212, 212, 405, 517, 651, 651, 681]) (len := 62) (off := 212) (tgt := 850) (by decide +kernel) (by rw [c129]; decide) (by rw [c129]; decide) (by rw [c129]; decide) (by decide) ?_
            refine ev_seg (o := 10) (nL := 22) (q := 852) (xs := [(.iload 11, 2, 11, 0, .null)]) (L' := [some (.ref 0), some (.ref 2), some (.ref 93), some (.ref 94), some (.ref 95), none, some (.ref 96), some (.ref 97), some (.ref 98), some (.ref 99), some (.ref 100), some (.int x11), some (.int x12), some (.int x13), some (.int x14), some (.int x15), some (.int x16), some (.int x17), some (.int s0), none, none, none]) (st' := [.int x11]) (w' := w) (g := []) (K := []) (by decide +kernel) rfl rfl rfl rfl jk0 ?_
            refine ev_if_eq (off := 494) (tgt := 1346) (by decide +kernel) (by decide) (fun c134 => ?_) (fun c134 => ?_)
            · replace h := jpos c134 h
              refine ev_seg (o := 10) (nL := 22) (q := 573) (xs := [(.iinc 14 1, 3, 14, 0, .int 1), (.goto (-776), 3, 0, 0, .null)]) (L' := [some (.ref 0), some (.ref 2), some (.ref 93), some (.ref 94), some (.ref 95), none, some (.ref 96), some (.ref 97), some (.ref 98), some (.ref 99), some (.ref 100), some (.int x11), some (.int x12), some (.int x13), some (.int (x14 + 1)), some (.int x15), some (.int x16), some (.int x17), some (.int s0), none, none, none]) (st' := []) (w' := w) (g := []) (K := []) (by decide +kernel) rfl rfl rfl rfl jk0 ?_
              refine ev_mask [true, true, true, true, true, false, true, true, true, true, true, true, true, true, true, false, false, false, false, false, false, false] ?_
              exact hk573 _ _ _ _ _ _ h
            · replace h := jneg c134 h
              refine ev_seg (o := 10) (nL := 22) (q := 859) (xs := [(.iload 12, 2, 12, 0, .null), (.bipush 16, 2, 0, 0, .int 16)]) (L' := [some (.ref 0), some (.ref 2), some (.ref 93), some (.ref 94), some (.ref 95), none, some (.ref 96), some (.ref 97), some (.ref 98), some (.ref 99), some (.ref 100), some (.int x11), some (.int x12), some (.int x13), some (.int x14), some (.int x15), some (.int x16), some (.int x17), some (.int s0), none, none, none]) (st' := [.int 16, .int x12]) (w' := w) (g := []) (K := []) (by decide +kernel) rfl rfl rfl rfl jk0 ?_
              refine ev_icmp_eq (off := 487) (tgt := 1346) (by decide +kernel) (by decide) (fun c133 => ?_) (fun c133 => ?_)
              · replace h := jpos c133 h
                refine ev_seg (o := 10) (nL := 22) (q := 573) (xs := [(.iinc 14 1, 3, 14, 0, .int 1), (.goto (-776), 3, 0, 0, .null)]) (L' := [some (.ref 0), some (.ref 2), some (.ref 93), some (.ref 94), some (.ref 95), none, some (.ref 96), some (.ref 97), some (.ref 98), some (.ref 99), some (.ref 100), some (.int x11), some (.int x12), some (.int x13), some (.int (x14 + 1)), some (.int x15), some (.int x16), some (.int x17), some (.int s0), none, none, none]) (st' := []) (w' := w) (g := []) (K := []) (by decide +kernel) rfl rfl rfl rfl jk0 ?_
                refine ev_mask [true, true, true, true, true, false, true, true, true, true, true, true, true, true, true, false, false, false, false, false, false, false] ?_
                exact hk573 _ _ _ _ _ _ h
              · replace h := jneg c133 h
                refine ev_seg (o := 10) (nL := 22) (q := 864) (xs := [(.iload 16, 2, 16, 0, .null)]) (L' := [some (.ref 0), some (.ref 2), some (.ref 93), some (.ref 94), some (.ref 95), none, some (.ref 96), some (.ref 97), some (.ref 98), some (.ref 99), some (.ref 100), some (.int x11), some (.int x12), some (.int x13), some (.int x14), some (.int x15), some (.int x16), some (.int x17), some (.int s0), none, none, none]) (st' := [.int x16]) (w' := w) (g := []) (K := []) (by decide +kernel) rfl rfl rfl rfl jk0 ?_
                refine ev_if_le (off := 20) (tgt := 884) (by decide +kernel) (by decide) (fun c132 => ?_) (fun c132 => ?_)
                · replace h := jpos c132 h
                  refine ev_mask [true, true, true, true, true, false, true, true, true, true, true, true, true, true, true, false, true, true, true, false, false, false] ?_
                  exact t_Law_law_j884 hG hxs hLs hk573 h
                · replace h := jneg c132 h
                  obtain ⟨hg130, h⟩ := jgd h
                  refine ev_seg (o := 10) (nL := 22) (q := 878) (xs := [(.aload 8, 2, 8, 0, .null), (.iconst 4, 1, 0, 0, .int 4), (.iload 18, 2, 18, 0, .null), (.imul, 1, 0, 0, .null), (.iconst 1, 1, 0, 0, .int 1), (.iadd, 1, 0, 0, .null), (.iaload, 1, 0, 0, .null), (.iload 16, 2, 16, 0, .null)]) (L' := [some (.ref 0), some (.ref 2), some (.ref 93), some (.ref 94), some (.ref 95), none, some (.ref 96), some (.ref 97), some (.ref 98), some (.ref 99), some (.ref 100), some (.int x11), some (.int x12), some (.int x13), some (.int x14), some (.int x15), some (.int x16), some (.int x17), some (.int s0), none, none, none]) (st' := [.int x16, .int (w.1 98 (Int32.toNatClampNeg ((4 * s0) + 1)))]) (w' := w) (g := [jin ((4 * s0) + 1) 32]) (K := [(98, 20)]) (by decide +kernel) rfl rfl rfl hg130 (jk1 (rfl) jk0) ?_
                  refine ev_icmp_ne (off := 6) (tgt := 884) (by decide +kernel) (by decide) (fun c131 => ?_) (fun c131 => ?_)
                  · replace h := jneg c131 h
                    refine ev_mask [true, true, true, true, true, false, true, true, true, true, true, true, true, true, true, false, true, true, true, false, false, false] ?_
                    exact t_Law_law_j884 hG hxs hLs hk573 h
                  · replace h := jpos c131 h
                    refine ev_seg (o := 10) (nL := 22) (q := 573) (xs := [(.goto 465, 3, 0, 0, .null), (.iinc 14 1, 3, 14, 0, .int 1), (.goto (-776), 3, 0, 0, .null)]) (L' := [some (.ref 0), some (.ref 2), some (.ref 93), some (.ref 94), some (.ref 95), none, some (.ref 96), some (.ref 97), some (.ref 98), some (.ref 99), some (.ref 100), some (.int x11), some (.int x12), some (.int x13), some (.int (x14 + 1)), some (.int x15), some (.int x16), some (.int x17), some (.int s0), none, none, none]) (st' := []) (w' := w) (g := []) (K := []) (by decide +kernel) rfl rfl rfl rfl jk0 ?_
                    refine ev_mask [true, true, true, true, true, false, true, true, true, true, true, true, true, true, true, false, false, false, false, false, false, false] ?_
                    exact hk573 _ _ _ _ _ _ h
          · replace h := jneg c129 h
            by_cases c135 : (x15 &&& 15) = 5
            · replace h := jpos c135 h
              refine ev_tableIn (dflt := 691) (lo := 0) (hi := 11) (offs := #[62, 62, 62, 212, 212, 212, 212, 405, 517, 651, 651, 681]) (len := 62) (off := 212) (tgt := 850) (by decide +kernel) (by rw [c135]; decide) (by rw [c135]; decide) (by rw [c135]; decide) (by decide) ?_
              refine ev_seg (o := 10) (nL := 22) (q := 852) (xs := [(.iload 11, 2, 11, 0, .null)]) (L' := [some (.ref 0), some (.ref 2), some (.ref 93), some (.ref 94), some (.ref 95), none, some (.ref 96), some (.ref 97), some (.ref 98), some (.ref 99), some (.ref 100), some (.int x11), some (.int x12), some (.int x13), some (.int x14), some (.int x15), some (.int x16), some (.int x17), some (.int s0), none, none, none]) (st' := [.int x11]) (w' := w) (g := []) (K := []) (by decide +kernel) rfl rfl rfl rfl jk0 ?_
              refine ev_if_eq (off := 494) (tgt := 1346) (by decide +kernel) (by decide) (fun c140 => ?_) (fun c140 => ?_)
              · replace h := jpos c140 h
                refine ev_seg (o := 10) (nL := 22) (q := 573) (xs := [(.iinc 14 1, 3, 14, 0, .int 1), (.goto (-776), 3, 0, 0, .null)]) (L' := [some (.ref 0), some (.ref 2), some (.ref 93), some (.ref 94), some (.ref 95), none, some (.ref 96), some (.ref 97), some (.ref 98), some (.ref 99), some (.ref 100), some (.int x11), some (.int x12), some (.int x13), some (.int (x14 + 1)), some (.int x15), some (.int x16), some (.int x17), some (.int s0), none, none, none]) (st' := []) (w' := w) (g := []) (K := []) (by decide +kernel) rfl rfl rfl rfl jk0 ?_
                refine ev_mask [true, true, true, true, true, false, true, true, true, true, true, true, true, true, true, false, false, false, false, false, false, false] ?_
                exact hk573 _ _ _ _ _ _ h
              · replace h := jneg c140 h
                refine ev_seg (o := 10) (nL := 22) (q := 859) (xs := [(.iload 12, 2, 12, 0, .null), (.bipush 16, 2, 0, 0, .int 16)]) (L' := [some (.ref 0), some (.ref 2), some (.ref 93), some (.ref 94), some (.ref 95), none, some (.ref 96), some (.ref 97), some (.ref 98), some (.ref 99), some (.ref 100), some (.int x11), some (.int x12), some (.int x13), some (.int x14), some (.int x15), some (.int x16), some (.int x17), some (.int s0), none, none, none]) (st' := [.int 16, .int x12]) (w' := w) (g := []) (K := []) (by decide +kernel) rfl rfl rfl rfl jk0 ?_
                refine ev_icmp_eq (off := 487) (tgt := 1346) (by decide +kernel) (by decide) (fun c139 => ?_) (fun c139 => ?_)
                · replace h := jpos c139 h
                  refine ev_seg (o := 10) (nL := 22) (q := 573) (xs := [(.iinc 14 1, 3, 14, 0, .int 1), (.goto (-776), 3, 0, 0, .null)]) (L' := [some (.ref 0), some (.ref 2), some (.ref 93), some (.ref 94), some (.ref 95), none, some (.ref 96), some (.ref 97), some (.ref 98), some (.ref 99), some (.ref 100), some (.int x11), some (.int x12), some (.int x13), some (.int (x14 + 1)), some (.int x15), some (.int x16), some (.int x17), some (.int s0), none, none, none]) (st' := []) (w' := w) (g := []) (K := []) (by decide +kernel) rfl rfl rfl rfl jk0 ?_
                  refine ev_mask [true, true, true, true, true, false, true, true, true, true, true, true, true, true, true, false, false, false, false, false, false, false] ?_
                  exact hk573 _ _ _ _ _ _ h
                · replace h := jneg c139 h
                  refine ev_seg (o := 10) (nL := 22) (q := 864) (xs := [(.iload 16, 2, 16, 0, .null)]) (L' := [some (.ref 0), some (.ref 2), some (.ref 93), some (.ref 94), some (.ref 95), none, some (.ref 96), some (.ref 97), some (.ref 98), some (.ref 99), some (.ref 100), some (.int x11), some (.int x12), some (.int x13), some (.int x14), some (.int x15), some (.int x16), some (.int x17), some (.int s0), none, none, none]) (st' := [.int x16]) (w' := w) (g := []) (K := []) (by decide +kernel) rfl rfl rfl rfl jk0 ?_
                  refine ev_if_le (off := 20) (tgt := 884) (by decide +kernel) (by decide) (fun c138 => ?_) (fun c138 => ?_)
                  · replace h := jpos c138 h
                    refine ev_mask [true, true, true, true, true, false, true, true, true, true, true, true, true, true, true, false, true, true, true, false, false, false] ?_
                    exact t_Law_law_j884 hG hxs hLs hk573 h
                  · replace h := jneg c138 h
                    obtain ⟨hg136, h⟩ := jgd h
                    refine ev_seg (o := 10) (nL := 22) (q := 878) (xs := [(.aload 8, 2, 8, 0, .null), (.iconst 4, 1, 0, 0, .int 4), (.iload 18, 2, 18, 0, .null), (.imul, 1, 0, 0, .null), (.iconst 1, 1, 0, 0, .int 1), (.iadd, 1, 0, 0, .null), (.iaload, 1, 0, 0, .null), (.iload 16, 2, 16, 0, .null)]) (L' := [some (.ref 0), some (.ref 2), some (.ref 93), some (.ref 94), some (.ref 95), none, some (.ref 96), some (.ref 97), some (.ref 98), some (.ref 99), some (.ref 100), some (.int x11), some (.int x12), some (.int x13), some (.int x14), some (.int x15), some (.int x16), some (.int x17), some (.int s0), none, none, none]) (st' := [.int x16, .int (w.1 98 (Int32.toNatClampNeg ((4 * s0) + 1)))]) (w' := w) (g := [jin ((4 * s0) + 1) 32]) (K := [(98, 20)]) (by decide +kernel) rfl rfl rfl hg136 (jk1 (rfl) jk0) ?_
                    refine ev_icmp_ne (off := 6) (tgt := 884) (by decide +kernel) (by decide) (fun c137 => ?_) (fun c137 => ?_)
                    · replace h := jneg c137 h
                      refine ev_mask [true, true, true, true, true, false, true, true, true, true, true, true, true, true, true, false, true, true, true, false, false, false] ?_
                      exact t_Law_law_j884 hG hxs hLs hk573 h
                    · replace h := jpos c137 h
                      refine ev_seg (o := 10) (nL := 22) (q := 573) (xs := [(.goto 465, 3, 0, 0, .null), (.iinc 14 1, 3, 14, 0, .int 1), (.goto (-776), 3, 0, 0, .null)]) (L' := [some (.ref 0), some (.ref 2), some (.ref 93), some (.ref 94), some (.ref 95), none, some (.ref 96), some (.ref 97), some (.ref 98), some (.ref 99), some (.ref 100), some (.int x11), some (.int x12), some (.int x13), some (.int (x14 + 1)), some (.int x15), some (.int x16), some (.int x17), some (.int s0), none, none, none]) (st' := []) (w' := w) (g := []) (K := []) (by decide +kernel) rfl rfl rfl rfl jk0 ?_
                      refine ev_mask [true, true, true, true, true, false, true, true, true, true, true, true, true, true, true, false, false, false, false, false, false, false] ?_
                      exact hk573 _ _ _ _ _ _ h
            · replace h := jneg c135 h
              by_cases c141 : (x15 &&& 15) = 6
              · replace h := jpos c141 h
                refine ev_tableIn (dflt := 691) (lo := 0) (hi := 11) (offs := #[62, 62, 62, 212, 212, 212, 212, 405, 517, 651, 651, 681]) (len := 62) (off := 212) (tgt := 850) (by decide +kernel) (by rw [c141]; decide) (by rw [c141]; decide) (by rw [c141]; decide) (by decide) ?_
                refine ev_seg (o := 10) (nL := 22) (q := 852) (xs := [(.iload 11, 2, 11, 0, .null)]) (L' := [some (.ref 0), some (.ref 2), some (.ref 93), some (.ref 94), some (.ref 95), none, some (.ref 96), some (.ref 97), some (.ref 98), some (.ref 99), some (.ref 100), some (.int x11), some (.int x12), some (.int x13), some (.int x14), some (.int x15), some (.int x16), some (.int x17), some (.int s0), none, none, none]) (st' := [.int x11]) (w' := w) (g := []) (K := []) (by decide +kernel) rfl rfl rfl rfl jk0 ?_
                refine ev_if_eq (off := 494) (tgt := 1346) (by decide +kernel) (by decide) (fun c146 => ?_) (fun c146 => ?_)
                · replace h := jpos c146 h
                  refine ev_seg (o := 10) (nL := 22) (q := 573) (xs := [(.iinc 14 1, 3, 14, 0, .int 1), (.goto (-776), 3, 0, 0, .null)]) (L' := [some (.ref 0), some (.ref 2), some (.ref 93), some (.ref 94), some (.ref 95), none, some (.ref 96), some (.ref 97), some (.ref 98), some (.ref 99), some (.ref 100), some (.int x11), some (.int x12), some (.int x13), some (.int (x14 + 1)), some (.int x15), some (.int x16), some (.int x17), some (.int s0), none, none, none]) (st' := []) (w' := w) (g := []) (K := []) (by decide +kernel) rfl rfl rfl rfl jk0 ?_
                  refine ev_mask [true, true, true, true, true, false, true, true, true, true, true, true, true, true, true, false, false, false, false, false, false, false] ?_
                  exact hk573 _ _ _ _ _ _ h
                · replace h := jneg c146 h
                  refine ev_seg (o := 10) (nL := 22) (q := 859) (xs := [(.iload 12, 2, 12, 0, .null), (.bipush 16, 2, 0, 0, .int 16)]) (L' := [some (.ref 0), some (.ref 2), some (.ref 93), some (.ref 94), some (.ref 95), none, some (.ref 96), some (.ref 97), some (.ref 98), some (.ref 99), some (.ref 100), some (.int x11), some (.int x12), some (.int x13), some (.int x14), some (.int x15), some (.int x16), some (.int x17), some (.int s0), none, none, none]) (st' := [.int 16, .int x12]) (w' := w) (g := []) (K := []) (by decide +kernel) rfl rfl rfl rfl jk0 ?_
                  refine ev_icmp_eq (off := 487) (tgt := 1346) (by decide +kernel) (by decide) (fun c145 => ?_) (fun c145 => ?_)
                  · replace h := jpos c145 h
                    refine ev_seg (o := 10) (nL := 22) (q := 573) (xs := [(.iinc 14 1, 3, 14, 0, .int 1), (.goto (-776), 3, 0, 0, .null)]) (L' := [some (.ref 0), some (.ref 2), some (.ref 93), some (.ref 94), some (.ref 95), none, some (.ref 96), some (.ref 97), some (.ref 98), some (.ref 99), some (.ref 100), some (.int x11), some (.int x12), some (.int x13), some (.int (x14 + 1)), some (.int x15), some (.int x16), some (.int x17), some (.int s0), none, none, none]) (st' := []) (w' := w) (g := []) (K := []) (by decide +kernel) rfl rfl rfl rfl jk0 ?_
                    refine ev_mask [true, true, true, true, true, false, true, true, true, true, true, true, true, true, true, false, false, false, false, false, false, false] ?_
                    exact hk573 _ _ _ _ _ _ h
                  · replace h := jneg c145 h
                    refine ev_seg (o := 10) (nL := 22) (q := 864) (xs := [(.iload 16, 2, 16, 0, .null)]) (L' := [some (.ref 0), some (.ref 2), some (.ref 93), some (.ref 94), some (.ref 95), none, some (.ref 96), some (.ref 97), some (.ref 98), some (.ref 99), some (.ref 100), some (.int x11), some (.int x12), some (.int x13), some (.int x14), some (.int x15), some (.int x16), some (.int x17), some (.int s0), none, none, none]) (st' := [.int x16]) (w' := w) (g := []) (K := []) (by decide +kernel) rfl rfl rfl rfl jk0 ?_
                    refine ev_if_le (off := 20) (tgt := 884) (by decide +kernel) (by decide) (fun c144 => ?_) (fun c144 => ?_)
                    · replace h := jpos c144 h
                      refine ev_mask [true, true, true, true, true, false, true, true, true, true, true, true, true, true, true, false, true, true, true, false, false, false] ?_
                      exact t_Law_law_j884 hG hxs hLs hk573 h
                    · replace h := jneg c144 h
                      obtain ⟨hg142, h⟩ := jgd h
                      refine ev_seg (o := 10) (nL := 22) (q := 878) (xs := [(.aload 8, 2, 8, 0, .null), (.iconst 4, 1, 0, 0, .int 4), (.iload 18, 2, 18, 0, .null), (.imul, 1, 0, 0, .null), (.iconst 1, 1, 0, 0, .int 1), (.iadd, 1, 0, 0, .null), (.iaload, 1, 0, 0, .null), (.iload 16, 2, 16, 0, .null)]) (L' := [some (.ref 0), some (.ref 2), some (.ref 93), some (.ref 94), some (.ref 95), none, some (.ref 96), some (.ref 97), some (.ref 98), some (.ref 99), some (.ref 100), some (.int x11), some (.int x12), some (.int x13), some (.int x14), some (.int x15), some (.int x16), some (.int x17), some (.int s0), none, none, none]) (st' := [.int x16, .int (w.1 98 (Int32.toNatClampNeg ((4 * s0) + 1)))]) (w' := w) (g := [jin ((4 * s0) + 1) 32]) (K := [(98, 20)]) (by decide +kernel) rfl rfl rfl hg142 (jk1 (rfl) jk0) ?_
                      refine ev_icmp_ne (off := 6) (tgt := 884) (by decide +kernel) (by decide) (fun c143 => ?_) (fun c143 => ?_)
                      · replace h := jneg c143 h
                        refine ev_mask [true, true, true, true, true, false, true, true, true, true, true, true, true, true, true, false, true, true, true, false, false, false] ?_
                        exact t_Law_law_j884 hG hxs hLs hk573 h
                      · replace h := jpos c143 h
                        refine ev_seg (o := 10) (nL := 22) (q := 573) (xs := [(.goto 465, 3, 0, 0, .null), (.iinc 14 1, 3, 14, 0, .int 1), (.goto (-776), 3, 0, 0, .null)]) (L' := [some (.ref 0), some (.ref 2), some (.ref 93), some (.ref 94), some (.ref 95), none, some (.ref 96), some (.ref 97), some (.ref 98), some (.ref 99), some (.ref 100), some (.int x11), some (.int x12), some (.int x13), some (.int (x14 + 1)), some (.int x15), some (.int x16), some (.int x17), some (.int s0), none, none, none]) (st' := []) (w' := w) (g := []) (K := []) (by decide +kernel) rfl rfl rfl rfl jk0 ?_
                        refine ev_mask [true, true, true, true, true, false, true, true, true, true, true, true, true, true, true, false, false, false, false, false, false, false] ?_
                        exact hk573 _ _ _ _ _ _ h
              · replace h := jneg c141 h
                by_cases c147 : (x15 &&& 15) = 7
                · replace h := jpos c147 h
                  refine ev_tableIn (dflt := 691) (lo := 0) (hi := 11) (offs := #[62, 62, 62, 212, 212, 212, 212, 405, 517, 651, 651, 681]) (len := 62) (off := 405) (tgt := 1043) (by decide +kernel) (by rw [c147]; decide) (by rw [c147]; decide) (by rw [c147]; decide) (by decide) ?_
                  refine ev_seg (o := 10) (nL := 22) (q := 1045) (xs := [(.iload 11, 2, 11, 0, .null)]) (L' := [some (.ref 0), some (.ref 2), some (.ref 93), some (.ref 94), some (.ref 95), none, some (.ref 96), some (.ref 97), some (.ref 98), some (.ref 99), some (.ref 100), some (.int x11), some (.int x12), some (.int x13), some (.int x14), some (.int x15), some (.int x16), some (.int x17), some (.int s0), none, none, none]) (st' := [.int x11]) (w' := w) (g := []) (K := []) (by decide +kernel) rfl rfl rfl rfl jk0 ?_
                  refine ev_if_ne (off := 6) (tgt := 1051) (by decide +kernel) (by decide) (fun c163 => ?_) (fun c163 => ?_)
                  · replace h := jneg c163 h
                    refine ev_seg (o := 10) (nL := 22) (q := 1061) (xs := [(.aload 8, 2, 8, 0, .null), (.aload 9, 2, 9, 0, .null), (.iload 12, 2, 12, 0, .null), (.iload 18, 2, 18, 0, .null), (.iload 16, 2, 16, 0, .null)]) (L' := [some (.ref 0), some (.ref 2), some (.ref 93), some (.ref 94), some (.ref 95), none, some (.ref 96), some (.ref 97), some (.ref 98), some (.ref 99), some (.ref 100), some (.int x11), some (.int x12), some (.int x13), some (.int x14), some (.int x15), some (.int x16), some (.int x17), some (.int s0), none, none, none]) (st' := [.int x16, .int s0, .int x12, .ref 99, .ref 98]) (w' := w) (g := []) (K := []) (by decide +kernel) rfl rfl rfl rfl jk0 ?_
                    obtain ⟨q148, hq148, h⟩ := jbe h
                    refine ev_callS (y2 := y_Law_where) (o := 10) (idx := 46) (d2 := d_Law_where) (n := 5) (mc2 := 0) (ms2 := 0) (As := [.ref 98, .ref 99, .int x12, .int s0, .int x16]) (st := []) (res2 := (some (.int q148.1), (jRx 101), q148.2)) (by decide +kernel) rfl lk_10_46 mo_Law_where ms_Law_where ⟨Nat.le_of_ble_eq_true rfl, Nat.le_of_ble_eq_true rfl⟩ rfl rfl (Nat.le_of_ble_eq_true rfl) ⟨Nat.le_of_ble_eq_true rfl, Nat.le_of_ble_eq_true rfl⟩ hG (e_Law_where hG hq148) ?_
                    refine ev_seg (o := 10) (nL := 22) (q := 1070) (xs := [(.istore 19, 2, 19, 0, .null), (.aload_n 1, 1, 1, 0, .null), (.iload 18, 2, 18, 0, .null), (.iconst 5, 1, 0, 0, .int 5)]) (L' := [some (.ref 0), some (.ref 2), some (.ref 93), some (.ref 94), some (.ref 95), none, some (.ref 96), some (.ref 97), some (.ref 98), some (.ref 99), some (.ref 100), some (.int x11), some (.int x12), some (.int x13), some (.int x14), some (.int x15), some (.int x16), some (.int x17), some (.int s0), some (.int q148.1), none, none]) (st' := [.int 5, .int s0, .ref 2]) (w' := q148.2) (g := []) (K := []) (by decide +kernel) rfl rfl rfl rfl jk0 ?_
                    obtain ⟨q149, hq149, h⟩ := jbe h
                    refine ev_callV (ci := 9) (a := 2) (y2 := y_Count_thing) (o := 10) (idx := 53) (d2 := d_Count_thing) (n := 2) (mc2 := 0) (ms2 := 0) (As := [.int s0, .int 5]) (st := []) (res2 := (some (.int q149.1), (jRx 101), q149.2)) (by decide +kernel) rfl lk_10_53 mo_Count_thing mv_Count_thing ⟨Nat.le_of_ble_eq_true rfl, Nat.le_of_ble_eq_true rfl⟩ rfl rfl (kz_2 (Nat.le_of_ble_eq_true rfl)) (by decide) rfl (Nat.le_of_ble_eq_true rfl) ⟨Nat.le_of_ble_eq_true rfl, Nat.le_of_ble_eq_true rfl⟩ hG (e_Count_thing hG (Nat.le_of_ble_eq_true rfl) hq149) ?_
                    refine ev_seg (o := 10) (nL := 22) (q := 1078) (xs := [(.istore 20, 2, 20, 0, .null), (.aload_n 1, 1, 1, 0, .null), (.iload 18, 2, 18, 0, .null)]) (L' := [some (.ref 0), some (.ref 2), some (.ref 93), some (.ref 94), some (.ref 95), none, some (.ref 96), some (.ref 97), some (.ref 98), some (.ref 99), some (.ref 100), some (.int x11), some (.int x12), some (.int x13), some (.int x14), some (.int x15), some (.int x16), some (.int x17), some (.int s0), some (.int q148.1), some (.int q149.1), none]) (st' := [.int s0, .ref 2]) (w' := q149.2) (g := []) (K := []) (by decide +kernel) rfl rfl rfl rfl jk0 ?_
                    obtain ⟨q150, hq150, h⟩ := jbe h
                    refine ev_callV (ci := 9) (a := 2) (y2 := y_Count_step) (o := 10) (idx := 56) (d2 := d_Count_step) (n := 1) (mc2 := 0) (ms2 := 0) (As := [.int s0]) (st := []) (res2 := (some (.int q150.1), (jRx 101), q150.2)) (by decide +kernel) rfl lk_10_56 mo_Count_step mv_Count_step ⟨Nat.le_of_ble_eq_true rfl, Nat.le_of_ble_eq_true rfl⟩ rfl rfl (kz_2 (Nat.le_of_ble_eq_true rfl)) (by decide) rfl (Nat.le_of_ble_eq_true rfl) ⟨Nat.le_of_ble_eq_true rfl, Nat.le_of_ble_eq_true rfl⟩ hG (e_Count_step hG (Nat.le_of_ble_eq_true rfl) hq150) ?_
                    refine ev_seg (o := 10) (nL := 22) (q := 1085) (xs := [(.istore 21, 2, 21, 0, .null), (.iload 21, 2, 21, 0, .null)]) (L' := [some (.ref 0), some (.ref 2), some (.ref 93), some (.ref 94), some (.ref 95), none, some (.ref 96), some (.ref 97), some (.ref 98), some (.ref 99), some (.ref 100), some (.int x11), some (.int x12), some (.int x13), some (.int x14), some (.int x15), some (.int x16), some (.int x17), some (.int s0), some (.int q148.1), some (.int q149.1), some (.int q150.1)]) (st' := [.int q150.1]) (w' := q150.2) (g := []) (K := []) (by decide +kernel) rfl rfl rfl rfl jk0 ?_
                    refine ev_if_le (off := 27) (tgt := 1112) (by decide +kernel) (by decide) (fun c162 => ?_) (fun c162 => ?_)
                    · replace h := jpos c162 h
                      refine ev_mask [true, true, true, true, true, false, true, true, true, true, true, true, true, true, true, false, true, false, true, true, false, true] ?_
                      exact t_Law_law_j1112 hG hxs hLs hk573 h
                    · replace h := jneg c162 h
                      refine ev_seg (o := 10) (nL := 22) (q := 1092) (xs := [(.iload 19, 2, 19, 0, .null), (.bipush 99, 2, 0, 0, .int 99)]) (L' := [some (.ref 0), some (.ref 2), some (.ref 93), some (.ref 94), some (.ref 95), none, some (.ref 96), some (.ref 97), some (.ref 98), some (.ref 99), some (.ref 100), some (.int x11), some (.int x12), some (.int x13), some (.int x14), some (.int x15), some (.int x16), some (.int x17), some (.int s0), some (.int q148.1), some (.int q149.1), some (.int q150.1)]) (st' := [.int 99, .int q148.1]) (w' := q150.2) (g := []) (K := []) (by decide +kernel) rfl rfl rfl rfl jk0 ?_
                      refine ev_icmp_gt (off := 41) (tgt := 1133) (by decide +kernel) (by decide) (fun c161 => ?_) (fun c161 => ?_)
                      · replace h := jneg c161 h
                        cases h
                      · replace h := jpos c161 h
                        obtain ⟨hg158, h⟩ := jgd h
                        refine ev_seg (o := 10) (nL := 22) (q := 1100) (xs := [(.aload_n 3, 1, 3, 0, .null), (.iload 19, 2, 19, 0, .null), (.iaload, 1, 0, 0, .null), (.iconst 3, 1, 0, 0, .int 3)]) (L' := [some (.ref 0), some (.ref 2), some (.ref 93), some (.ref 94), some (.ref 95), none, some (.ref 96), some (.ref 97), some (.ref 98), some (.ref 99), some (.ref 100), some (.int x11), some (.int x12), some (.int x13), some (.int x14), some (.int x15), some (.int x16), some (.int x17), some (.int s0), some (.int q148.1), some (.int q149.1), some (.int q150.1)]) (st' := [.int 3, .int (q150.2.1 94 (Int32.toNatClampNeg q148.1))]) (w' := q150.2) (g := [jin q148.1 5]) (K := [(94, 20)]) (by decide +kernel) rfl rfl rfl hg158 (jk1 (rfl) jk0) ?_
                        refine ev_icmp_ne (off := 33) (tgt := 1133) (by decide +kernel) (by decide) (fun c160 => ?_) (fun c160 => ?_)
                        · replace h := jneg c160 h
                          cases h
                        · replace h := jpos c160 h
                          refine ev_seg (o := 10) (nL := 22) (q := 1109) (xs := [(.iload 21, 2, 21, 0, .null), (.iload 20, 2, 20, 0, .null), (.iconst 1, 1, 0, 0, .int 1), (.iadd, 1, 0, 0, .null)]) (L' := [some (.ref 0), some (.ref 2), some (.ref 93), some (.ref 94), some (.ref 95), none, some (.ref 96), some (.ref 97), some (.ref 98), some (.ref 99), some (.ref 100), some (.int x11), some (.int x12), some (.int x13), some (.int x14), some (.int x15), some (.int x16), some (.int x17), some (.int s0), some (.int q148.1), some (.int q149.1), some (.int q150.1)]) (st' := [.int (q149.1 + 1), .int q150.1]) (w' := q150.2) (g := []) (K := []) (by decide +kernel) rfl rfl rfl rfl jk0 ?_
                          refine ev_icmp_ne (off := 24) (tgt := 1133) (by decide +kernel) (by decide) (fun c159 => ?_) (fun c159 => ?_)
                          · replace h := jneg c159 h
                            cases h
                          · replace h := jpos c159 h
                            refine ev_mask [true, true, true, true, true, false, true, true, true, true, true, true, true, true, true, false, true, false, true, true, false, true] ?_
                            exact t_Law_law_j1112 hG hxs hLs hk573 h
                  · replace h := jpos c163 h
                    refine ev_seg (o := 10) (nL := 22) (q := 573) (xs := [(.goto 298, 3, 0, 0, .null), (.iinc 14 1, 3, 14, 0, .int 1), (.goto (-776), 3, 0, 0, .null)]) (L' := [some (.ref 0), some (.ref 2), some (.ref 93), some (.ref 94), some (.ref 95), none, some (.ref 96), some (.ref 97), some (.ref 98), some (.ref 99), some (.ref 100), some (.int x11), some (.int x12), some (.int x13), some (.int (x14 + 1)), some (.int x15), some (.int x16), some (.int x17), some (.int s0), none, none, none]) (st' := []) (w' := w) (g := []) (K := []) (by decide +kernel) rfl rfl rfl rfl jk0 ?_
                    refine ev_mask [true, true, true, true, true, false, true, true, true, true, true, true, true, true, true, false, false, false, false, false, false, false] ?_
                    exact hk573 _ _ _ _ _ _ h
                · replace h := jneg c147 h
                  by_cases c164 : (x15 &&& 15) = 8
                  · replace h := jpos c164 h
                    refine ev_tableIn (dflt := 691) (lo := 0) (hi := 11) (offs := #[62, 62, 62, 212, 212, 212, 212, 405, 517, 651, 651, 681]) (len := 62) (off := 517) (tgt := 1155) (by decide +kernel) (by rw [c164]; decide) (by rw [c164]; decide) (by rw [c164]; decide) (by decide) ?_
                    refine ev_seg (o := 10) (nL := 22) (q := 1159) (xs := [(.iload 13, 2, 13, 0, .null), (.bipush 8, 2, 0, 0, .int 8)]) (L' := [some (.ref 0), some (.ref 2), some (.ref 93), some (.ref 94), some (.ref 95), none, some (.ref 96), some (.ref 97), some (.ref 98), some (.ref 99), some (.ref 100), some (.int x11), some (.int x12), some (.int x13), some (.int x14), some (.int x15), some (.int x16), some (.int x17), some (.int s0), none, none, none]) (st' := [.int 8, .int x13]) (w' := w) (g := []) (K := []) (by decide +kernel) rfl rfl rfl rfl jk0 ?_
                    refine ev_icmp_ne (off := 6) (tgt := 1165) (by decide +kernel) (by decide) (fun c179 => ?_) (fun c179 => ?_)
                    · replace h := jneg c179 h
                      refine ev_seg (o := 10) (nL := 22) (q := 1171) (xs := [(.iconst (-1), 1, 0, 0, .int (-1)), (.istore 19, 2, 19, 0, .null), (.iconst 0, 1, 0, 0, .int 0), (.istore 20, 2, 20, 0, .null)]) (L' := [some (.ref 0), some (.ref 2), some (.ref 93), some (.ref 94), some (.ref 95), none, some (.ref 96), some (.ref 97), some (.ref 98), some (.ref 99), some (.ref 100), some (.int x11), some (.int x12), some (.int x13), some (.int x14), some (.int x15), some (.int x16), some (.int x17), some (.int s0), some (.int (-1)), some (.int 0), none]) (st' := []) (w' := w) (g := []) (K := []) (by decide +kernel) rfl rfl rfl rfl jk0 ?_
                      refine ev_mask [true, true, true, true, true, false, true, true, true, true, true, true, true, true, true, false, true, true, false, true, true, false] ?_
                      exact t_Law_law_h1171 hG hxs hLs hk573 jfu _ _ _ _ _ _ _ _ _ _ h
                    · replace h := jpos c179 h
                      refine ev_seg (o := 10) (nL := 22) (q := 573) (xs := [(.goto 184, 3, 0, 0, .null), (.iinc 14 1, 3, 14, 0, .int 1), (.goto (-776), 3, 0, 0, .null)]) (L' := [some (.ref 0), some (.ref 2), some (.ref 93), some (.ref 94), some (.ref 95), none, some (.ref 96), some (.ref 97), some (.ref 98), some (.ref 99), some (.ref 100), some (.int x11), some (.int x12), some (.int x13), some (.int (x14 + 1)), some (.int x15), some (.int x16), some (.int x17), some (.int s0), none, none, none]) (st' := []) (w' := w) (g := []) (K := []) (by decide +kernel) rfl rfl rfl rfl jk0 ?_
                      refine ev_mask [true, true, true, true, true, false, true, true, true, true, true, true, true, true, true, false, false, false, false, false, false, false] ?_
                      exact hk573 _ _ _ _ _ _ h
                  · replace h := jneg c164 h
                    by_cases c180 : (x15 &&& 15) = 9
                    · replace h := jpos c180 h
                      refine ev_tableIn (dflt := 691) (lo := 0) (hi := 11) (offs := #[62, 62, 62, 212, 212, 212, 212, 405, 517, 651, 651, 681]) (len := 62) (off := 651) (tgt := 1289) (by decide +kernel) (by rw [c180]; decide) (by rw [c180]; decide) (by rw [c180]; decide) (by decide) ?_
                      refine ev_seg (o := 10) (nL := 22) (q := 1293) (xs := [(.aload_n 1, 1, 1, 0, .null), (.iconst 1, 1, 0, 0, .int 1), (.iload 17, 2, 17, 0, .null)]) (L' := [some (.ref 0), some (.ref 2), some (.ref 93), some (.ref 94), some (.ref 95), none, some (.ref 96), some (.ref 97), some (.ref 98), some (.ref 99), some (.ref 100), some (.int x11), some (.int x12), some (.int x13), some (.int x14), some (.int x15), some (.int x16), some (.int x17), some (.int s0), none, none, none]) (st' := [.int x17, .int 1, .ref 2]) (w' := w) (g := []) (K := []) (by decide +kernel) rfl rfl rfl rfl jk0 ?_
                      obtain ⟨q181, hq181, h⟩ := jbe h
                      refine ev_callV (ci := 9) (a := 2) (y2 := y_Count_visit) (o := 10) (idx := 66) (d2 := d_Count_visit) (n := 2) (mc2 := 0) (ms2 := 0) (As := [.int 1, .int x17]) (st := []) (res2 := (some (.int q181.1), (jRx 101), q181.2)) (by decide +kernel) rfl lk_10_66 mo_Count_visit mv_Count_visit ⟨Nat.le_of_ble_eq_true rfl, Nat.le_of_ble_eq_true rfl⟩ rfl rfl (kz_2 (Nat.le_of_ble_eq_true rfl)) (by decide) rfl (Nat.le_of_ble_eq_true rfl) ⟨Nat.le_of_ble_eq_true rfl, Nat.le_of_ble_eq_true rfl⟩ hG (e_Count_visit hG (Nat.le_of_ble_eq_true rfl) hq181) ?_
                      refine ev_if_ge (off := 7) (tgt := 1303) (by decide +kernel) (by decide) (fun c184 => ?_) (fun c184 => ?_)
                      · replace h := jneg c184 h
                        refine ev_seg (o := 10) (nL := 22) (q := 1304) (xs := [(.iconst 0, 1, 0, 0, .int 0)]) (L' := [some (.ref 0), some (.ref 2), some (.ref 93), some (.ref 94), some (.ref 95), none, some (.ref 96), some (.ref 97), some (.ref 98), some (.ref 99), some (.ref 100), some (.int x11), some (.int x12), some (.int x13), some (.int x14), some (.int x15), some (.int x16), some (.int x17), some (.int s0), none, none, none]) (st' := [.int 0]) (w' := q181.2) (g := []) (K := []) (by decide +kernel) rfl rfl rfl rfl jk0 ?_
                        refine ev_mask [true, true, true, true, true, false, true, true, true, true, true, true, true, true, true, false, true, false, false, false, false, false] ?_
                        exact t_Law_law_j1304 hG hxs hLs hk573 h
                      · replace h := jpos c184 h
                        refine ev_seg (o := 10) (nL := 22) (q := 1304) (xs := [(.iconst 1, 1, 0, 0, .int 1), (.goto 4, 3, 0, 0, .null)]) (L' := [some (.ref 0), some (.ref 2), some (.ref 93), some (.ref 94), some (.ref 95), none, some (.ref 96), some (.ref 97), some (.ref 98), some (.ref 99), some (.ref 100), some (.int x11), some (.int x12), some (.int x13), some (.int x14), some (.int x15), some (.int x16), some (.int x17), some (.int s0), none, none, none]) (st' := [.int 1]) (w' := q181.2) (g := []) (K := []) (by decide +kernel) rfl rfl rfl rfl jk0 ?_
                        refine ev_mask [true, true, true, true, true, false, true, true, true, true, true, true, true, true, true, false, true, false, false, false, false, false] ?_
                        exact t_Law_law_j1304 hG hxs hLs hk573 h
                    · replace h := jneg c180 h
                      by_cases c185 : (x15 &&& 15) = 10
                      · replace h := jpos c185 h
                        refine ev_tableIn (dflt := 691) (lo := 0) (hi := 11) (offs := #[62, 62, 62, 212, 212, 212, 212, 405, 517, 651, 651, 681]) (len := 62) (off := 651) (tgt := 1289) (by decide +kernel) (by rw [c185]; decide) (by rw [c185]; decide) (by rw [c185]; decide) (by decide) ?_
                        refine ev_seg (o := 10) (nL := 22) (q := 1293) (xs := [(.aload_n 1, 1, 1, 0, .null), (.iconst 1, 1, 0, 0, .int 1), (.iload 17, 2, 17, 0, .null)]) (L' := [some (.ref 0), some (.ref 2), some (.ref 93), some (.ref 94), some (.ref 95), none, some (.ref 96), some (.ref 97), some (.ref 98), some (.ref 99), some (.ref 100), some (.int x11), some (.int x12), some (.int x13), some (.int x14), some (.int x15), some (.int x16), some (.int x17), some (.int s0), none, none, none]) (st' := [.int x17, .int 1, .ref 2]) (w' := w) (g := []) (K := []) (by decide +kernel) rfl rfl rfl rfl jk0 ?_
                        obtain ⟨q186, hq186, h⟩ := jbe h
                        refine ev_callV (ci := 9) (a := 2) (y2 := y_Count_visit) (o := 10) (idx := 66) (d2 := d_Count_visit) (n := 2) (mc2 := 0) (ms2 := 0) (As := [.int 1, .int x17]) (st := []) (res2 := (some (.int q186.1), (jRx 101), q186.2)) (by decide +kernel) rfl lk_10_66 mo_Count_visit mv_Count_visit ⟨Nat.le_of_ble_eq_true rfl, Nat.le_of_ble_eq_true rfl⟩ rfl rfl (kz_2 (Nat.le_of_ble_eq_true rfl)) (by decide) rfl (Nat.le_of_ble_eq_true rfl) ⟨Nat.le_of_ble_eq_true rfl, Nat.le_of_ble_eq_true rfl⟩ hG (e_Count_visit hG (Nat.le_of_ble_eq_true rfl) hq186) ?_
                        refine ev_if_ge (off := 7) (tgt := 1303) (by decide +kernel) (by decide) (fun c187 => ?_) (fun c187 => ?_)
                        · replace h := jneg c187 h
                          refine ev_seg (o := 10) (nL := 22) (q := 1304) (xs := [(.iconst 0, 1, 0, 0, .int 0)]) (L' := [some (.ref 0), some (.ref 2), some (.ref 93), some (.ref 94), some (.ref 95), none, some (.ref 96), some (.ref 97), some (.ref 98), some (.ref 99), some (.ref 100), some (.int x11), some (.int x12), some (.int x13), some (.int x14), some (.int x15), some (.int x16), some (.int x17), some (.int s0), none, none, none]) (st' := [.int 0]) (w' := q186.2) (g := []) (K := []) (by decide +kernel) rfl rfl rfl rfl jk0 ?_
                          refine ev_mask [true, true, true, true, true, false, true, true, true, true, true, true, true, true, true, false, true, false, false, false, false, false] ?_
                          exact t_Law_law_j1304 hG hxs hLs hk573 h
                        · replace h := jpos c187 h
                          refine ev_seg (o := 10) (nL := 22) (q := 1304) (xs := [(.iconst 1, 1, 0, 0, .int 1), (.goto 4, 3, 0, 0, .null)]) (L' := [some (.ref 0), some (.ref 2), some (.ref 93), some (.ref 94), some (.ref 95), none, some (.ref 96), some (.ref 97), some (.ref 98), some (.ref 99), some (.ref 100), some (.int x11), some (.int x12), some (.int x13), some (.int x14), some (.int x15), some (.int x16), some (.int x17), some (.int s0), none, none, none]) (st' := [.int 1]) (w' := q186.2) (g := []) (K := []) (by decide +kernel) rfl rfl rfl rfl jk0 ?_
                          refine ev_mask [true, true, true, true, true, false, true, true, true, true, true, true, true, true, true, false, true, false, false, false, false, false] ?_
                          exact t_Law_law_j1304 hG hxs hLs hk573 h
                      · replace h := jneg c185 h
                        by_cases c188 : (x15 &&& 15) = 11
                        · replace h := jpos c188 h
                          refine ev_tableIn (dflt := 691) (lo := 0) (hi := 11) (offs := #[62, 62, 62, 212, 212, 212, 212, 405, 517, 651, 651, 681]) (len := 62) (off := 681) (tgt := 1319) (by decide +kernel) (by rw [c188]; decide) (by rw [c188]; decide) (by rw [c188]; decide) (by decide) ?_
                          refine ev_seg (o := 10) (nL := 22) (q := 1322) (xs := [(.aload_n 1, 1, 1, 0, .null), (.iload 17, 2, 17, 0, .null)]) (L' := [some (.ref 0), some (.ref 2), some (.ref 93), some (.ref 94), some (.ref 95), none, some (.ref 96), some (.ref 97), some (.ref 98), some (.ref 99), some (.ref 100), some (.int x11), some (.int x12), some (.int x13), some (.int x14), some (.int x15), some (.int x16), some (.int x17), some (.int s0), none, none, none]) (st' := [.int x17, .ref 2]) (w' := w) (g := []) (K := []) (by decide +kernel) rfl rfl rfl rfl jk0 ?_
                          obtain ⟨q189, hq189, h⟩ := jbe h
                          refine ev_callV (ci := 9) (a := 2) (y2 := y_Count_picture) (o := 10) (idx := 69) (d2 := d_Count_picture) (n := 1) (mc2 := 0) (ms2 := 0) (As := [.int x17]) (st := []) (res2 := (some (.int q189.1), (jRx 101), q189.2)) (by decide +kernel) rfl lk_10_69 mo_Count_picture mv_Count_picture ⟨Nat.le_of_ble_eq_true rfl, Nat.le_of_ble_eq_true rfl⟩ rfl rfl (kz_2 (Nat.le_of_ble_eq_true rfl)) (by decide) rfl (Nat.le_of_ble_eq_true rfl) ⟨Nat.le_of_ble_eq_true rfl, Nat.le_of_ble_eq_true rfl⟩ hG (e_Count_picture hG (Nat.le_of_ble_eq_true rfl) hq189) ?_
                          refine ev_seg (o := 10) (nL := 22) (q := 573) (xs := [(.pop, 1, 0, 0, .null), (.goto 20, 3, 0, 0, .null), (.iinc 14 1, 3, 14, 0, .int 1), (.goto (-776), 3, 0, 0, .null)]) (L' := [some (.ref 0), some (.ref 2), some (.ref 93), some (.ref 94), some (.ref 95), none, some (.ref 96), some (.ref 97), some (.ref 98), some (.ref 99), some (.ref 100), some (.int x11), some (.int x12), some (.int x13), some (.int (x14 + 1)), some (.int x15), some (.int x16), some (.int x17), some (.int s0), none, none, none]) (st' := []) (w' := q189.2) (g := []) (K := []) (by decide +kernel) rfl rfl rfl rfl jk0 ?_
                          refine ev_mask [true, true, true, true, true, false, true, true, true, true, true, true, true, true, true, false, false, false, false, false, false, false] ?_
                          exact hk573 _ _ _ _ _ _ h
                        · replace h := jneg c188 h
                          have ec73 := lv_neT (a := 0) c73 rfl
                          have ec92 := lv_neT (a := 1) c92 rfl
                          have ec98 := lv_neT (a := 2) c98 rfl
                          have ec104 := lv_neT (a := 3) c104 rfl
                          have ec129 := lv_neT (a := 4) c129 rfl
                          have ec135 := lv_neT (a := 5) c135 rfl
                          have ec141 := lv_neT (a := 6) c141 rfl
                          have ec147 := lv_neT (a := 7) c147 rfl
                          have ec164 := lv_neT (a := 8) c164 rfl
                          have ec180 := lv_neT (a := 9) c180 rfl
                          have ec185 := lv_neT (a := 10) c185 rfl
                          have ec188 := lv_neT (a := 11) c188 rfl
                          refine ev_tableOut (dflt := 691) (lo := 0) (hi := 11) (offs := #[62, 62, 62, 212, 212, 212, 212, 405, 517, 651, 651, 681]) (len := 62) (tgt := 1329) (by decide +kernel) (by omega) (by decide) ?_
                          refine ev_seg (o := 10) (nL := 22) (q := 1338) (xs := [(.aload_n 1, 1, 1, 0, .null), (.iconst 1, 1, 0, 0, .int 1), (.iload 15, 2, 15, 0, .null), (.iconst 4, 1, 0, 0, .int 4), (.ishr, 1, 0, 0, .null), (.iconst 3, 1, 0, 0, .int 3), (.iand, 1, 0, 0, .null), (.iadd, 1, 0, 0, .null)]) (L' := [some (.ref 0), some (.ref 2), some (.ref 93), some (.ref 94), some (.ref 95), none, some (.ref 96), some (.ref 97), some (.ref 98), some (.ref 99), some (.ref 100), some (.int x11), some (.int x12), some (.int x13), some (.int x14), some (.int x15), some (.int x16), some (.int x17), some (.int s0), none, none, none]) (st' := [.int (1 + ((x15 >>> ((4 : Int32) &&& 31)) &&& 3)), .ref 2]) (w' := w) (g := []) (K := []) (by decide +kernel) rfl rfl rfl rfl jk0 ?_
                          obtain ⟨q71, hq71, h⟩ := jbe h
                          refine ev_callV (ci := 9) (a := 2) (y2 := y_Count_days) (o := 10) (idx := 72) (d2 := d_Count_days) (n := 1) (mc2 := 0) (ms2 := 0) (As := [.int (1 + ((x15 >>> ((4 : Int32) &&& 31)) &&& 3))]) (st := []) (res2 := (some (.int q71.1), (jRx 101), q71.2)) (by decide +kernel) rfl lk_10_72 mo_Count_days mv_Count_days ⟨Nat.le_of_ble_eq_true rfl, Nat.le_of_ble_eq_true rfl⟩ rfl rfl (kz_2 (Nat.le_of_ble_eq_true rfl)) (by decide) rfl (Nat.le_of_ble_eq_true rfl) ⟨Nat.le_of_ble_eq_true rfl, Nat.le_of_ble_eq_true rfl⟩ hG (e_Count_days hG (Nat.le_of_ble_eq_true rfl) hq71) ?_
                          refine ev_if_ge (off := 5) (tgt := 1346) (by decide +kernel) (by decide) (fun c72 => ?_) (fun c72 => ?_)
                          · replace h := jneg c72 h
                            refine ev_seg (o := 10) (nL := 22) (q := 573) (xs := [(.iinc 14 1, 3, 14, 0, .int 1), (.goto (-776), 3, 0, 0, .null)]) (L' := [some (.ref 0), some (.ref 2), some (.ref 93), some (.ref 94), some (.ref 95), none, some (.ref 96), some (.ref 97), some (.ref 98), some (.ref 99), some (.ref 100), some (.int x11), some (.int x12), some (.int x13), some (.int (x14 + 1)), some (.int x15), some (.int x16), some (.int x17), some (.int s0), none, none, none]) (st' := []) (w' := q71.2) (g := []) (K := []) (by decide +kernel) rfl rfl rfl rfl jk0 ?_
                            refine ev_mask [true, true, true, true, true, false, true, true, true, true, true, true, true, true, true, false, false, false, false, false, false, false] ?_
                            exact hk573 _ _ _ _ _ _ h
                          · replace h := jpos c72 h
                            cases h
def f_Law_law_h573 (xs : Nat → Int32) (Ls : Nat) : Nat → Int32 → Int32 → Int32 → Int32 → jW → Option (Int32 × jW)
  | 0, _, _, _, _, _ => none
  | n + 1, x11, x12, x13, x14, w =>
  if x14 < 40 then
    Option.bind (f_Law_pick xs Ls (11 + x14) w) fun q67 =>
    Option.bind (f_Count_about 0 q67.2) fun q68 =>
    if jal [!(5 == 0)] = true then
    if x11 = 0 then
      f_Law_law_j631 xs Ls (f_Law_law_h573 xs Ls n) x11 x12 x13 x14 q67.1 q68.1 (((q67.1 >>> ((4 : Int32) &&& 31)) &&& 255) - ((q67.1 >>> ((4 : Int32) &&& 31)) &&& 255) / 5 * 5) 0 q68.2
    else
      if jal [!(x11 == 0)] = true then
      f_Law_law_j631 xs Ls (f_Law_law_h573 xs Ls n) x11 x12 x13 x14 q67.1 q68.1 (((q67.1 >>> ((4 : Int32) &&& 31)) &&& 255) - ((q67.1 >>> ((4 : Int32) &&& 31)) &&& 255) / 5 * 5) (((q67.1 >>> ((12 : Int32) &&& 31)) &&& 255) - ((q67.1 >>> ((12 : Int32) &&& 31)) &&& 255) / x11 * x11) q68.2
      else none
    else none
  else
    Option.bind (f_Count_about 0 w) fun q25 =>
    f_Law_law_h1362 xs Ls jfu x11 x12 x13 q25.1 0 q25.2
set_option maxRecDepth 20000 in
set_option maxHeartbeats 40000000 in
theorem t_Law_law_h573 {l : Launch} {G : jG} (hG : jX G) {xs : Nat → Int32} {Ls : Nat} (hxs : True) (hLs : jscr G Ls xs) : ∀ (n : Nat) (x11 : Int32) (x12 : Int32) (x13 : Int32) (x14 : Int32) (w : jW) (z : (Int32 × jW)), f_Law_law_h573 xs Ls n x11 x12 x13 x14 w = some z → Ev l G room_1 y_Law_law (some (.int z.1), (jRx 105), z.2) 600000 7302250 99 22331 573 [some (.ref 0), some (.ref 2), some (.ref 93), some (.ref 94), some (.ref 95), none, some (.ref 96), some (.ref 97), some (.ref 98), some (.ref 99), some (.ref 100), some (.int x11), some (.int x12), some (.int x13), some (.int x14), none, none, none, none, none, none, none] [] (jRx 101) w := by
  intro n
  induction n with
  | zero => intro x11 x12 x13 x14 w z h; simp only [f_Law_law_h573] at h; cases h
  | succ n ih =>
    intro x11 x12 x13 x14 w z h
    rw [f_Law_law_h573] at h
    refine ev_seg (o := 10) (nL := 22) (q := 577) (xs := [(.iload 14, 2, 14, 0, .null), (.bipush 40, 2, 0, 0, .int 40)]) (L' := [some (.ref 0), some (.ref 2), some (.ref 93), some (.ref 94), some (.ref 95), none, some (.ref 96), some (.ref 97), some (.ref 98), some (.ref 99), some (.ref 100), some (.int x11), some (.int x12), some (.int x13), some (.int x14), none, none, none, none, none, none, none]) (st' := [.int 40, .int x14]) (w' := w) (g := []) (K := []) (by decide +kernel) rfl rfl rfl rfl jk0 ?_
    refine ev_icmp_ge (off := 775) (tgt := 1352) (by decide +kernel) (by decide) (fun c191 => ?_) (fun c191 => ?_)
    · replace h := jneg c191 h
      refine ev_seg (o := 10) (nL := 22) (q := 1354) (xs := [(.aload_n 1, 1, 1, 0, .null), (.iconst 0, 1, 0, 0, .int 0)]) (L' := [some (.ref 0), some (.ref 2), some (.ref 93), some (.ref 94), some (.ref 95), none, some (.ref 96), some (.ref 97), some (.ref 98), some (.ref 99), some (.ref 100), some (.int x11), some (.int x12), some (.int x13), some (.int x14), none, none, none, none, none, none, none]) (st' := [.int 0, .ref 2]) (w' := w) (g := []) (K := []) (by decide +kernel) rfl rfl rfl rfl jk0 ?_
      obtain ⟨q25, hq25, h⟩ := jbe h
      refine ev_callV (ci := 9) (a := 2) (y2 := y_Count_about) (o := 10) (idx := 38) (d2 := d_Count_about) (n := 1) (mc2 := 0) (ms2 := 0) (As := [.int 0]) (st := []) (res2 := (some (.int q25.1), (jRx 101), q25.2)) (by decide +kernel) rfl lk_10_38 mo_Count_about mv_Count_about ⟨Nat.le_of_ble_eq_true rfl, Nat.le_of_ble_eq_true rfl⟩ rfl rfl (kz_2 (Nat.le_of_ble_eq_true rfl)) (by decide) rfl (Nat.le_of_ble_eq_true rfl) ⟨Nat.le_of_ble_eq_true rfl, Nat.le_of_ble_eq_true rfl⟩ hG (e_Count_about hG (Nat.le_of_ble_eq_true rfl) hq25) ?_
      refine ev_seg (o := 10) (nL := 22) (q := 1362) (xs := [(.istore 14, 2, 14, 0, .null), (.iconst 0, 1, 0, 0, .int 0), (.istore 15, 2, 15, 0, .null)]) (L' := [some (.ref 0), some (.ref 2), some (.ref 93), some (.ref 94), some (.ref 95), none, some (.ref 96), some (.ref 97), some (.ref 98), some (.ref 99), some (.ref 100), some (.int x11), some (.int x12), some (.int x13), some (.int q25.1), some (.int 0), none, none, none, none, none, none]) (st' := []) (w' := q25.2) (g := []) (K := []) (by decide +kernel) rfl rfl rfl rfl jk0 ?_
      refine ev_mask [true, true, true, false, true, false, false, false, true, true, true, true, true, true, true, true, false, false, false, false, false, false] ?_
      exact t_Law_law_h1362 hG hxs hLs jfu _ _ _ _ _ _ _ h
    · replace h := jpos c191 h
      refine ev_seg (o := 10) (nL := 22) (q := 586) (xs := [(.aload_n 0, 1, 0, 0, .null), (.bipush 11, 2, 0, 0, .int 11), (.iload 14, 2, 14, 0, .null), (.iadd, 1, 0, 0, .null)]) (L' := [some (.ref 0), some (.ref 2), some (.ref 93), some (.ref 94), some (.ref 95), none, some (.ref 96), some (.ref 97), some (.ref 98), some (.ref 99), some (.ref 100), some (.int x11), some (.int x12), some (.int x13), some (.int x14), none, none, none, none, none, none, none]) (st' := [.int (11 + x14), .ref 0]) (w' := w) (g := []) (K := []) (by decide +kernel) rfl rfl rfl rfl jk0 ?_
      obtain ⟨q67, hq67, h⟩ := jbe h
      refine ev_callS (y2 := y_Law_pick) (o := 10) (idx := 11) (d2 := d_Law_pick) (n := 2) (mc2 := 0) (ms2 := 0) (As := [.ref 0, .int (11 + x14)]) (st := []) (res2 := (some (.int q67.1), (jRx 101), q67.2)) (by decide +kernel) rfl lk_10_11 mo_Law_pick ms_Law_pick ⟨Nat.le_of_ble_eq_true rfl, Nat.le_of_ble_eq_true rfl⟩ rfl rfl (Nat.le_of_ble_eq_true rfl) ⟨Nat.le_of_ble_eq_true rfl, Nat.le_of_ble_eq_true rfl⟩ hG (e_Law_pick hG (Nat.le_of_ble_eq_true rfl) hxs hLs hq67) ?_
      refine ev_seg (o := 10) (nL := 22) (q := 593) (xs := [(.istore 15, 2, 15, 0, .null), (.aload_n 1, 1, 1, 0, .null), (.iconst 0, 1, 0, 0, .int 0)]) (L' := [some (.ref 0), some (.ref 2), some (.ref 93), some (.ref 94), some (.ref 95), none, some (.ref 96), some (.ref 97), some (.ref 98), some (.ref 99), some (.ref 100), some (.int x11), some (.int x12), some (.int x13), some (.int x14), some (.int q67.1), none, none, none, none, none, none]) (st' := [.int 0, .ref 2]) (w' := q67.2) (g := []) (K := []) (by decide +kernel) rfl rfl rfl rfl jk0 ?_
      obtain ⟨q68, hq68, h⟩ := jbe h
      refine ev_callV (ci := 9) (a := 2) (y2 := y_Count_about) (o := 10) (idx := 38) (d2 := d_Count_about) (n := 1) (mc2 := 0) (ms2 := 0) (As := [.int 0]) (st := []) (res2 := (some (.int q68.1), (jRx 101), q68.2)) (by decide +kernel) rfl lk_10_38 mo_Count_about mv_Count_about ⟨Nat.le_of_ble_eq_true rfl, Nat.le_of_ble_eq_true rfl⟩ rfl rfl (kz_2 (Nat.le_of_ble_eq_true rfl)) (by decide) rfl (Nat.le_of_ble_eq_true rfl) ⟨Nat.le_of_ble_eq_true rfl, Nat.le_of_ble_eq_true rfl⟩ hG (e_Count_about hG (Nat.le_of_ble_eq_true rfl) hq68) ?_
      obtain ⟨hg69, h⟩ := jgd h
      refine ev_seg (o := 10) (nL := 22) (q := 612) (xs := [(.istore 16, 2, 16, 0, .null), (.iload 15, 2, 15, 0, .null), (.iconst 4, 1, 0, 0, .int 4), (.ishr, 1, 0, 0, .null), (.sipush 255, 3, 0, 0, .int 255), (.iand, 1, 0, 0, .null), (.iconst 5, 1, 0, 0, .int 5), (.irem, 1, 0, 0, .null), (.istore 17, 2, 17, 0, .null), (.iload 11, 2, 11, 0, .null)]) (L' := [some (.ref 0), some (.ref 2), some (.ref 93), some (.ref 94), some (.ref 95), none, some (.ref 96), some (.ref 97), some (.ref 98), some (.ref 99), some (.ref 100), some (.int x11), some (.int x12), some (.int x13), some (.int x14), some (.int q67.1), some (.int q68.1), some (.int (((q67.1 >>> ((4 : Int32) &&& 31)) &&& 255) - ((q67.1 >>> ((4 : Int32) &&& 31)) &&& 255) / 5 * 5)), none, none, none, none]) (st' := [.int x11]) (w' := q68.2) (g := [!(5 == 0)]) (K := []) (by decide +kernel) rfl rfl rfl hg69 jk0 ?_
      refine ev_if_ne (off := 7) (tgt := 619) (by decide +kernel) (by decide) (fun c190 => ?_) (fun c190 => ?_)
      · replace h := jneg c190 h
        obtain ⟨hg70, h⟩ := jgd h
        refine ev_seg (o := 10) (nL := 22) (q := 631) (xs := [(.iload 15, 2, 15, 0, .null), (.bipush 12, 2, 0, 0, .int 12), (.ishr, 1, 0, 0, .null), (.sipush 255, 3, 0, 0, .int 255), (.iand, 1, 0, 0, .null), (.iload 11, 2, 11, 0, .null), (.irem, 1, 0, 0, .null)]) (L' := [some (.ref 0), some (.ref 2), some (.ref 93), some (.ref 94), some (.ref 95), none, some (.ref 96), some (.ref 97), some (.ref 98), some (.ref 99), some (.ref 100), some (.int x11), some (.int x12), some (.int x13), some (.int x14), some (.int q67.1), some (.int q68.1), some (.int (((q67.1 >>> ((4 : Int32) &&& 31)) &&& 255) - ((q67.1 >>> ((4 : Int32) &&& 31)) &&& 255) / 5 * 5)), none, none, none, none]) (st' := [.int (((q67.1 >>> ((12 : Int32) &&& 31)) &&& 255) - ((q67.1 >>> ((12 : Int32) &&& 31)) &&& 255) / x11 * x11)]) (w' := q68.2) (g := [!(x11 == 0)]) (K := []) (by decide +kernel) rfl rfl rfl hg70 jk0 ?_
        refine ev_mask [true, true, true, true, true, false, true, true, true, true, true, true, true, true, true, true, true, true, false, false, false, false] ?_
        exact t_Law_law_j631 hG hxs hLs ih h
      · replace h := jpos c190 h
        refine ev_seg (o := 10) (nL := 22) (q := 631) (xs := [(.iconst 0, 1, 0, 0, .int 0), (.goto 15, 3, 0, 0, .null)]) (L' := [some (.ref 0), some (.ref 2), some (.ref 93), some (.ref 94), some (.ref 95), none, some (.ref 96), some (.ref 97), some (.ref 98), some (.ref 99), some (.ref 100), some (.int x11), some (.int x12), some (.int x13), some (.int x14), some (.int q67.1), some (.int q68.1), some (.int (((q67.1 >>> ((4 : Int32) &&& 31)) &&& 255) - ((q67.1 >>> ((4 : Int32) &&& 31)) &&& 255) / 5 * 5)), none, none, none, none]) (st' := [.int 0]) (w' := q68.2) (g := []) (K := []) (by decide +kernel) rfl rfl rfl rfl jk0 ?_
        refine ev_mask [true, true, true, true, true, false, true, true, true, true, true, true, true, true, true, true, true, true, false, false, false, false] ?_
        exact t_Law_law_j631 hG hxs hLs ih h
def f_Law_law_j419 (xs : Nat → Int32) (Ls : Nat) (k380 : Int32 → jW → Option (Int32 × jW)) (x6 : Int32) (s0 : Int32) (s1 : Int32) (w : jW) : Option (Int32 × jW) :=
  if s1 = s0 then
    k380 (x6 + 1) w
  else
    none
set_option maxRecDepth 20000 in
set_option maxHeartbeats 40000000 in
theorem t_Law_law_j419 {l : Launch} {G : jG} (hG : jX G) {xs : Nat → Int32} {Ls : Nat} (hxs : True) (hLs : jscr G Ls xs) {k380 : Int32 → jW → Option (Int32 × jW)} (hk380 : ∀ (x6 : Int32) (w : jW) (z : (Int32 × jW)), k380 x6 w = some z → Ev l G room_1 y_Law_law (some (.int z.1), (jRx 105), z.2) 600000 7302250 94 22197 380 [some (.ref 0), some (.ref 2), some (.ref 93), some (.ref 94), some (.ref 95), none, some (.int x6), none, none, none, none, none, none, none, none, none, none, none, none, none, none, none] [] (jRx 96) w) {x6 : Int32} {s0 : Int32} {s1 : Int32} {w : jW} {z : (Int32 × jW)} (h : f_Law_law_j419 xs Ls k380 x6 s0 s1 w = some z) : Ev l G room_1 y_Law_law (some (.int z.1), (jRx 105), z.2) 600000 7302250 94 22197 419 [some (.ref 0), some (.ref 2), some (.ref 93), some (.ref 94), some (.ref 95), none, some (.int x6), none, none, none, none, none, none, none, none, none, none, none, none, none, none, none] [.int s0, .int s1] (jRx 96) w := by
  rw [f_Law_law_j419] at h
  refine ev_icmp_eq (off := 5) (tgt := 424) (by decide +kernel) (by decide) (fun c200 => ?_) (fun c200 => ?_)
  · replace h := jpos c200 h
    refine ev_seg (o := 10) (nL := 22) (q := 380) (xs := [(.iinc 6 1, 3, 6, 0, .int 1), (.goto (-47), 3, 0, 0, .null)]) (L' := [some (.ref 0), some (.ref 2), some (.ref 93), some (.ref 94), some (.ref 95), none, some (.int (x6 + 1)), none, none, none, none, none, none, none, none, none, none, none, none, none, none, none]) (st' := []) (w' := w) (g := []) (K := []) (by decide +kernel) rfl rfl rfl rfl jk0 ?_
    refine ev_mask [true, true, true, true, true, false, true, false, false, false, false, false, false, false, false, false, false, false, false, false, false, false] ?_
    exact hk380 _ _ _ h
  · replace h := jneg c200 h
    cases h
def f_Law_law_h380 (xs : Nat → Int32) (Ls : Nat) : Nat → Int32 → jW → Option (Int32 × jW)
  | 0, _, _ => none
  | n + 1, x6, w =>
  if x6 < 25 then
    if jal [!(5 == 0), !(5 == 0)] = true then
    Option.bind (f_Count_way (x6 / 5) (x6 - x6 / 5 * 5) w) fun q197 =>
    if jal [jin x6 25] = true then
    if (q197.2.1 95 (Int32.toNatClampNeg x6)) ≤ 900 then
      if jal [jin x6 25] = true then
      f_Law_law_j419 xs Ls (f_Law_law_h380 xs Ls n) x6 (q197.2.1 95 (Int32.toNatClampNeg x6)) q197.1 q197.2
      else none
    else
      f_Law_law_j419 xs Ls (f_Law_law_h380 xs Ls n) x6 (-1) q197.1 q197.2
    else none
    else none
  else
    Option.bind (f_Count_sort 0 10 30 10 60 w) fun q4 =>
    if q4.1 = 0 then
      none
    else
      Option.bind (f_Count_sort 1 25 45 50 100 q4.2) fun q5 =>
      if q5.1 = 0 then
        none
      else
        Option.bind (f_Count_sort 2 100 120 300 400 q5.2) fun q6 =>
        if q6.1 = 0 then
          none
        else
          Option.bind (f_Count_sort 3 190 200 480 500 q6.2) fun q7 =>
          if q7.1 = 0 then
            none
          else
            jlw (jzr q7.2 96) fun w8 =>
            if jal [jin 0 3] = true then
            jlw ((jup w8.1 96 (Int32.toNatClampNeg 0) 10), w8.2) fun w10 =>
            if jal [jin 1 3] = true then
            jlw ((jup w10.1 96 (Int32.toNatClampNeg 1) 25), w10.2) fun w12 =>
            if jal [jin 2 3] = true then
            jlw ((jup w12.1 96 (Int32.toNatClampNeg 2) 100), w12.2) fun w14 =>
            jlw (jzr w14 97) fun w15 =>
            if jal [jin 0 3] = true then
            jlw ((jup w15.1 97 (Int32.toNatClampNeg 0) 10), w15.2) fun w17 =>
            if jal [jin 1 3] = true then
            jlw ((jup w17.1 97 (Int32.toNatClampNeg 1) 50), w17.2) fun w19 =>
            if jal [jin 2 3] = true then
            jlw ((jup w19.1 97 (Int32.toNatClampNeg 2) 300), w19.2) fun w21 =>
            jlw (jzr w21 98) fun w22 =>
            jlw (jzr w22 99) fun w23 =>
            jlw (jzr w23 100) fun w24 =>
            f_Law_law_h573 xs Ls jfu 0 0 0 0 w24
            else none else none else none
            else none else none else none
set_option maxRecDepth 20000 in
set_option maxHeartbeats 40000000 in
theorem t_Law_law_h380 {l : Launch} {G : jG} (hG : jX G) {xs : Nat → Int32} {Ls : Nat} (hxs : True) (hLs : jscr G Ls xs) : ∀ (n : Nat) (x6 : Int32) (w : jW) (z : (Int32 × jW)), f_Law_law_h380 xs Ls n x6 w = some z → Ev l G room_1 y_Law_law (some (.int z.1), (jRx 105), z.2) 600000 7302250 94 22197 380 [some (.ref 0), some (.ref 2), some (.ref 93), some (.ref 94), some (.ref 95), none, some (.int x6), none, none, none, none, none, none, none, none, none, none, none, none, none, none, none] [] (jRx 96) w := by
  intro n
  induction n with
  | zero => intro x6 w z h; simp only [f_Law_law_h380] at h; cases h
  | succ n ih =>
    intro x6 w z h
    rw [f_Law_law_h380] at h
    refine ev_seg (o := 10) (nL := 22) (q := 384) (xs := [(.iload 6, 2, 6, 0, .null), (.bipush 25, 2, 0, 0, .int 25)]) (L' := [some (.ref 0), some (.ref 2), some (.ref 93), some (.ref 94), some (.ref 95), none, some (.int x6), none, none, none, none, none, none, none, none, none, none, none, none, none, none, none]) (st' := [.int 25, .int x6]) (w' := w) (g := []) (K := []) (by decide +kernel) rfl rfl rfl rfl jk0 ?_
    refine ev_icmp_ge (off := 46) (tgt := 430) (by decide +kernel) (by decide) (fun c202 => ?_) (fun c202 => ?_)
    · replace h := jneg c202 h
      refine ev_seg (o := 10) (nL := 22) (q := 440) (xs := [(.aload_n 1, 1, 1, 0, .null), (.iconst 0, 1, 0, 0, .int 0), (.bipush 10, 2, 0, 0, .int 10), (.bipush 30, 2, 0, 0, .int 30), (.bipush 10, 2, 0, 0, .int 10), (.bipush 60, 2, 0, 0, .int 60)]) (L' := [some (.ref 0), some (.ref 2), some (.ref 93), some (.ref 94), some (.ref 95), none, some (.int x6), none, none, none, none, none, none, none, none, none, none, none, none, none, none, none]) (st' := [.int 60, .int 10, .int 30, .int 10, .int 0, .ref 2]) (w' := w) (g := []) (K := []) (by decide +kernel) rfl rfl rfl rfl jk0 ?_
      obtain ⟨q4, hq4, h⟩ := jbe h
      refine ev_callV (ci := 9) (a := 2) (y2 := y_Count_sort) (o := 10) (idx := 34) (d2 := d_Count_sort) (n := 5) (mc2 := 0) (ms2 := 0) (As := [.int 0, .int 10, .int 30, .int 10, .int 60]) (st := []) (res2 := (some (.int q4.1), (jRx 96), q4.2)) (by decide +kernel) rfl lk_10_34 mo_Count_sort mv_Count_sort ⟨Nat.le_of_ble_eq_true rfl, Nat.le_of_ble_eq_true rfl⟩ rfl rfl (kz_2 (Nat.le_of_ble_eq_true rfl)) (by decide) rfl (Nat.le_of_ble_eq_true rfl) ⟨Nat.le_of_ble_eq_true rfl, Nat.le_of_ble_eq_true rfl⟩ hG (e_Count_sort hG (Nat.le_of_ble_eq_true rfl) hq4) ?_
      refine ev_if_eq (off := 57) (tgt := 500) (by decide +kernel) (by decide) (fun c195 => ?_) (fun c195 => ?_)
      · replace h := jpos c195 h
        cases h
      · replace h := jneg c195 h
        refine ev_seg (o := 10) (nL := 22) (q := 456) (xs := [(.aload_n 1, 1, 1, 0, .null), (.iconst 1, 1, 0, 0, .int 1), (.bipush 25, 2, 0, 0, .int 25), (.bipush 45, 2, 0, 0, .int 45), (.bipush 50, 2, 0, 0, .int 50), (.bipush 100, 2, 0, 0, .int 100)]) (L' := [some (.ref 0), some (.ref 2), some (.ref 93), some (.ref 94), some (.ref 95), none, some (.int x6), none, none, none, none, none, none, none, none, none, none, none, none, none, none, none]) (st' := [.int 100, .int 50, .int 45, .int 25, .int 1, .ref 2]) (w' := q4.2) (g := []) (K := []) (by decide +kernel) rfl rfl rfl rfl jk0 ?_
        obtain ⟨q5, hq5, h⟩ := jbe h
        refine ev_callV (ci := 9) (a := 2) (y2 := y_Count_sort) (o := 10) (idx := 34) (d2 := d_Count_sort) (n := 5) (mc2 := 0) (ms2 := 0) (As := [.int 1, .int 25, .int 45, .int 50, .int 100]) (st := []) (res2 := (some (.int q5.1), (jRx 96), q5.2)) (by decide +kernel) rfl lk_10_34 mo_Count_sort mv_Count_sort ⟨Nat.le_of_ble_eq_true rfl, Nat.le_of_ble_eq_true rfl⟩ rfl rfl (kz_2 (Nat.le_of_ble_eq_true rfl)) (by decide) rfl (Nat.le_of_ble_eq_true rfl) ⟨Nat.le_of_ble_eq_true rfl, Nat.le_of_ble_eq_true rfl⟩ hG (e_Count_sort hG (Nat.le_of_ble_eq_true rfl) hq5) ?_
        refine ev_if_eq (off := 41) (tgt := 500) (by decide +kernel) (by decide) (fun c194 => ?_) (fun c194 => ?_)
        · replace h := jpos c194 h
          cases h
        · replace h := jneg c194 h
          refine ev_seg (o := 10) (nL := 22) (q := 474) (xs := [(.aload_n 1, 1, 1, 0, .null), (.iconst 2, 1, 0, 0, .int 2), (.bipush 100, 2, 0, 0, .int 100), (.bipush 120, 2, 0, 0, .int 120), (.sipush 300, 3, 0, 0, .int 300), (.sipush 400, 3, 0, 0, .int 400)]) (L' := [some (.ref 0), some (.ref 2), some (.ref 93), some (.ref 94), some (.ref 95), none, some (.int x6), none, none, none, none, none, none, none, none, none, none, none, none, none, none, none]) (st' := [.int 400, .int 300, .int 120, .int 100, .int 2, .ref 2]) (w' := q5.2) (g := []) (K := []) (by decide +kernel) rfl rfl rfl rfl jk0 ?_
          obtain ⟨q6, hq6, h⟩ := jbe h
          refine ev_callV (ci := 9) (a := 2) (y2 := y_Count_sort) (o := 10) (idx := 34) (d2 := d_Count_sort) (n := 5) (mc2 := 0) (ms2 := 0) (As := [.int 2, .int 100, .int 120, .int 300, .int 400]) (st := []) (res2 := (some (.int q6.1), (jRx 96), q6.2)) (by decide +kernel) rfl lk_10_34 mo_Count_sort mv_Count_sort ⟨Nat.le_of_ble_eq_true rfl, Nat.le_of_ble_eq_true rfl⟩ rfl rfl (kz_2 (Nat.le_of_ble_eq_true rfl)) (by decide) rfl (Nat.le_of_ble_eq_true rfl) ⟨Nat.le_of_ble_eq_true rfl, Nat.le_of_ble_eq_true rfl⟩ hG (e_Count_sort hG (Nat.le_of_ble_eq_true rfl) hq6) ?_
          refine ev_if_eq (off := 23) (tgt := 500) (by decide +kernel) (by decide) (fun c193 => ?_) (fun c193 => ?_)
          · replace h := jpos c193 h
            cases h
          · replace h := jneg c193 h
            refine ev_seg (o := 10) (nL := 22) (q := 494) (xs := [(.aload_n 1, 1, 1, 0, .null), (.iconst 3, 1, 0, 0, .int 3), (.sipush 190, 3, 0, 0, .int 190), (.sipush 200, 3, 0, 0, .int 200), (.sipush 480, 3, 0, 0, .int 480), (.sipush 500, 3, 0, 0, .int 500)]) (L' := [some (.ref 0), some (.ref 2), some (.ref 93), some (.ref 94), some (.ref 95), none, some (.int x6), none, none, none, none, none, none, none, none, none, none, none, none, none, none, none]) (st' := [.int 500, .int 480, .int 200, .int 190, .int 3, .ref 2]) (w' := q6.2) (g := []) (K := []) (by decide +kernel) rfl rfl rfl rfl jk0 ?_
            obtain ⟨q7, hq7, h⟩ := jbe h
            refine ev_callV (ci := 9) (a := 2) (y2 := y_Count_sort) (o := 10) (idx := 34) (d2 := d_Count_sort) (n := 5) (mc2 := 0) (ms2 := 0) (As := [.int 3, .int 190, .int 200, .int 480, .int 500]) (st := []) (res2 := (some (.int q7.1), (jRx 96), q7.2)) (by decide +kernel) rfl lk_10_34 mo_Count_sort mv_Count_sort ⟨Nat.le_of_ble_eq_true rfl, Nat.le_of_ble_eq_true rfl⟩ rfl rfl (kz_2 (Nat.le_of_ble_eq_true rfl)) (by decide) rfl (Nat.le_of_ble_eq_true rfl) ⟨Nat.le_of_ble_eq_true rfl, Nat.le_of_ble_eq_true rfl⟩ hG (e_Count_sort hG (Nat.le_of_ble_eq_true rfl) hq7) ?_
            refine ev_if_ne (off := 5) (tgt := 502) (by decide +kernel) (by decide) (fun c192 => ?_) (fun c192 => ?_)
            · replace h := jneg c192 h
              refine ev_seg (o := 10) (nL := 22) (q := 503) (xs := [(.iconst 3, 1, 0, 0, .int 3)]) (L' := [some (.ref 0), some (.ref 2), some (.ref 93), some (.ref 94), some (.ref 95), none, some (.int x6), none, none, none, none, none, none, none, none, none, none, none, none, none, none, none]) (st' := [.int 3]) (w' := q7.2) (g := []) (K := []) (by decide +kernel) rfl rfl rfl rfl jk0 ?_
              refine ev_newx (kk := 96) (kd := 20) (ty := .int) (atype := .int) (N := 3) (by decide +kernel) rfl (by decide +kernel) (Or.inl ⟨rfl, rfl⟩) ja_int (by decide +kernel) (by decide +kernel) (Nat.le_of_ble_eq_true rfl) (Nat.le_of_ble_eq_true rfl) (Nat.le_of_ble_eq_true rfl) ?_
              refine jlw_c (P := fun w8 => Ev l G room_1 y_Law_law (some (.int z.1), (jRx 105), z.2) 600000 7302250 95 22200 505 [some (.ref 0), some (.ref 2), some (.ref 93), some (.ref 94), some (.ref 95), none, some (.int x6), none, none, none, none, none, none, none, none, none, none, none, none, none, none, none] [.ref 96] (jRx 97) w8) h fun w8 h => ?_
              obtain ⟨hg9, h⟩ := jgd h
              refine ev_seg (o := 10) (nL := 22) (q := 510) (xs := [(.dup, 1, 0, 0, .null), (.iconst 0, 1, 0, 0, .int 0), (.bipush 10, 2, 0, 0, .int 10), (.iastore, 1, 0, 0, .null)]) (L' := [some (.ref 0), some (.ref 2), some (.ref 93), some (.ref 94), some (.ref 95), none, some (.int x6), none, none, none, none, none, none, none, none, none, none, none, none, none, none, none]) (st' := [.ref 96]) (w' := ((jup w8.1 96 (Int32.toNatClampNeg 0) 10), w8.2)) (g := [jin 0 3]) (K := [(96, 20)]) (by decide +kernel) rfl rfl rfl hg9 (jk1 (rfl) jk0) ?_
              refine jlw_c (P := fun w10 => Ev l G room_1 y_Law_law (some (.int z.1), (jRx 105), z.2) 600000 7302250 95 22200 510 [some (.ref 0), some (.ref 2), some (.ref 93), some (.ref 94), some (.ref 95), none, some (.int x6), none, none, none, none, none, none, none, none, none, none, none, none, none, none, none] [.ref 96] (jRx 97) w10) h fun w10 h => ?_
              obtain ⟨hg11, h⟩ := jgd h
              refine ev_seg (o := 10) (nL := 22) (q := 515) (xs := [(.dup, 1, 0, 0, .null), (.iconst 1, 1, 0, 0, .int 1), (.bipush 25, 2, 0, 0, .int 25), (.iastore, 1, 0, 0, .null)]) (L' := [some (.ref 0), some (.ref 2), some (.ref 93), some (.ref 94), some (.ref 95), none, some (.int x6), none, none, none, none, none, none, none, none, none, none, none, none, none, none, none]) (st' := [.ref 96]) (w' := ((jup w10.1 96 (Int32.toNatClampNeg 1) 25), w10.2)) (g := [jin 1 3]) (K := [(96, 20)]) (by decide +kernel) rfl rfl rfl hg11 (jk1 (rfl) jk0) ?_
              refine jlw_c (P := fun w12 => Ev l G room_1 y_Law_law (some (.int z.1), (jRx 105), z.2) 600000 7302250 95 22200 515 [some (.ref 0), some (.ref 2), some (.ref 93), some (.ref 94), some (.ref 95), none, some (.int x6), none, none, none, none, none, none, none, none, none, none, none, none, none, none, none] [.ref 96] (jRx 97) w12) h fun w12 h => ?_
              obtain ⟨hg13, h⟩ := jgd h
              refine ev_seg (o := 10) (nL := 22) (q := 520) (xs := [(.dup, 1, 0, 0, .null), (.iconst 2, 1, 0, 0, .int 2), (.bipush 100, 2, 0, 0, .int 100), (.iastore, 1, 0, 0, .null)]) (L' := [some (.ref 0), some (.ref 2), some (.ref 93), some (.ref 94), some (.ref 95), none, some (.int x6), none, none, none, none, none, none, none, none, none, none, none, none, none, none, none]) (st' := [.ref 96]) (w' := ((jup w12.1 96 (Int32.toNatClampNeg 2) 100), w12.2)) (g := [jin 2 3]) (K := [(96, 20)]) (by decide +kernel) rfl rfl rfl hg13 (jk1 (rfl) jk0) ?_
              refine jlw_c (P := fun w14 => Ev l G room_1 y_Law_law (some (.int z.1), (jRx 105), z.2) 600000 7302250 95 22200 520 [some (.ref 0), some (.ref 2), some (.ref 93), some (.ref 94), some (.ref 95), none, some (.int x6), none, none, none, none, none, none, none, none, none, none, none, none, none, none, none] [.ref 96] (jRx 97) w14) h fun w14 h => ?_
              refine ev_seg (o := 10) (nL := 22) (q := 523) (xs := [(.astore 6, 2, 6, 0, .null), (.iconst 3, 1, 0, 0, .int 3)]) (L' := [some (.ref 0), some (.ref 2), some (.ref 93), some (.ref 94), some (.ref 95), none, some (.ref 96), none, none, none, none, none, none, none, none, none, none, none, none, none, none, none]) (st' := [.int 3]) (w' := w14) (g := []) (K := []) (by decide +kernel) rfl rfl rfl rfl jk0 ?_
              refine ev_newx (kk := 97) (kd := 20) (ty := .int) (atype := .int) (N := 3) (by decide +kernel) rfl (by decide +kernel) (Or.inl ⟨rfl, rfl⟩) ja_int (by decide +kernel) (by decide +kernel) (Nat.le_of_ble_eq_true rfl) (Nat.le_of_ble_eq_true rfl) (Nat.le_of_ble_eq_true rfl) ?_
              refine jlw_c (P := fun w15 => Ev l G room_1 y_Law_law (some (.int z.1), (jRx 105), z.2) 600000 7302250 96 22203 525 [some (.ref 0), some (.ref 2), some (.ref 93), some (.ref 94), some (.ref 95), none, some (.ref 96), none, none, none, none, none, none, none, none, none, none, none, none, none, none, none] [.ref 97] (jRx 98) w15) h fun w15 h => ?_
              obtain ⟨hg16, h⟩ := jgd h
              refine ev_seg (o := 10) (nL := 22) (q := 530) (xs := [(.dup, 1, 0, 0, .null), (.iconst 0, 1, 0, 0, .int 0), (.bipush 10, 2, 0, 0, .int 10), (.iastore, 1, 0, 0, .null)]) (L' := [some (.ref 0), some (.ref 2), some (.ref 93), some (.ref 94), some (.ref 95), none, some (.ref 96), none, none, none, none, none, none, none, none, none, none, none, none, none, none, none]) (st' := [.ref 97]) (w' := ((jup w15.1 97 (Int32.toNatClampNeg 0) 10), w15.2)) (g := [jin 0 3]) (K := [(97, 20)]) (by decide +kernel) rfl rfl rfl hg16 (jk1 (rfl) jk0) ?_
              refine jlw_c (P := fun w17 => Ev l G room_1 y_Law_law (some (.int z.1), (jRx 105), z.2) 600000 7302250 96 22203 530 [some (.ref 0), some (.ref 2), some (.ref 93), some (.ref 94), some (.ref 95), none, some (.ref 96), none, none, none, none, none, none, none, none, none, none, none, none, none, none, none] [.ref 97] (jRx 98) w17) h fun w17 h => ?_
              obtain ⟨hg18, h⟩ := jgd h
              refine ev_seg (o := 10) (nL := 22) (q := 535) (xs := [(.dup, 1, 0, 0, .null), (.iconst 1, 1, 0, 0, .int 1), (.bipush 50, 2, 0, 0, .int 50), (.iastore, 1, 0, 0, .null)]) (L' := [some (.ref 0), some (.ref 2), some (.ref 93), some (.ref 94), some (.ref 95), none, some (.ref 96), none, none, none, none, none, none, none, none, none, none, none, none, none, none, none]) (st' := [.ref 97]) (w' := ((jup w17.1 97 (Int32.toNatClampNeg 1) 50), w17.2)) (g := [jin 1 3]) (K := [(97, 20)]) (by decide +kernel) rfl rfl rfl hg18 (jk1 (rfl) jk0) ?_
              refine jlw_c (P := fun w19 => Ev l G room_1 y_Law_law (some (.int z.1), (jRx 105), z.2) 600000 7302250 96 22203 535 [some (.ref 0), some (.ref 2), some (.ref 93), some (.ref 94), some (.ref 95), none, some (.ref 96), none, none, none, none, none, none, none, none, none, none, none, none, none, none, none] [.ref 97] (jRx 98) w19) h fun w19 h => ?_
              obtain ⟨hg20, h⟩ := jgd h
              refine ev_seg (o := 10) (nL := 22) (q := 541) (xs := [(.dup, 1, 0, 0, .null), (.iconst 2, 1, 0, 0, .int 2), (.sipush 300, 3, 0, 0, .int 300), (.iastore, 1, 0, 0, .null)]) (L' := [some (.ref 0), some (.ref 2), some (.ref 93), some (.ref 94), some (.ref 95), none, some (.ref 96), none, none, none, none, none, none, none, none, none, none, none, none, none, none, none]) (st' := [.ref 97]) (w' := ((jup w19.1 97 (Int32.toNatClampNeg 2) 300), w19.2)) (g := [jin 2 3]) (K := [(97, 20)]) (by decide +kernel) rfl rfl rfl hg20 (jk1 (rfl) jk0) ?_
              refine jlw_c (P := fun w21 => Ev l G room_1 y_Law_law (some (.int z.1), (jRx 105), z.2) 600000 7302250 96 22203 541 [some (.ref 0), some (.ref 2), some (.ref 93), some (.ref 94), some (.ref 95), none, some (.ref 96), none, none, none, none, none, none, none, none, none, none, none, none, none, none, none] [.ref 97] (jRx 98) w21) h fun w21 h => ?_
              refine ev_seg (o := 10) (nL := 22) (q := 545) (xs := [(.astore 7, 2, 7, 0, .null), (.bipush 32, 2, 0, 0, .int 32)]) (L' := [some (.ref 0), some (.ref 2), some (.ref 93), some (.ref 94), some (.ref 95), none, some (.ref 96), some (.ref 97), none, none, none, none, none, none, none, none, none, none, none, none, none, none]) (st' := [.int 32]) (w' := w21) (g := []) (K := []) (by decide +kernel) rfl rfl rfl rfl jk0 ?_
              refine ev_newx (kk := 98) (kd := 20) (ty := .int) (atype := .int) (N := 32) (by decide +kernel) rfl (by decide +kernel) (Or.inl ⟨rfl, rfl⟩) ja_int (by decide +kernel) (by decide +kernel) (Nat.le_of_ble_eq_true rfl) (Nat.le_of_ble_eq_true rfl) (Nat.le_of_ble_eq_true rfl) ?_
              refine jlw_c (P := fun w22 => Ev l G room_1 y_Law_law (some (.int z.1), (jRx 105), z.2) 600000 7302250 97 22235 547 [some (.ref 0), some (.ref 2), some (.ref 93), some (.ref 94), some (.ref 95), none, some (.ref 96), some (.ref 97), none, none, none, none, none, none, none, none, none, none, none, none, none, none] [.ref 98] (jRx 99) w22) h fun w22 h => ?_
              refine ev_seg (o := 10) (nL := 22) (q := 551) (xs := [(.astore 8, 2, 8, 0, .null), (.bipush 80, 2, 0, 0, .int 80)]) (L' := [some (.ref 0), some (.ref 2), some (.ref 93), some (.ref 94), some (.ref 95), none, some (.ref 96), some (.ref 97), some (.ref 98), none, none, none, none, none, none, none, none, none, none, none, none, none]) (st' := [.int 80]) (w' := w22) (g := []) (K := []) (by decide +kernel) rfl rfl rfl rfl jk0 ?_
              refine ev_newx (kk := 99) (kd := 20) (ty := .int) (atype := .int) (N := 80) (by decide +kernel) rfl (by decide +kernel) (Or.inl ⟨rfl, rfl⟩) ja_int (by decide +kernel) (by decide +kernel) (Nat.le_of_ble_eq_true rfl) (Nat.le_of_ble_eq_true rfl) (Nat.le_of_ble_eq_true rfl) ?_
              refine jlw_c (P := fun w23 => Ev l G room_1 y_Law_law (some (.int z.1), (jRx 105), z.2) 600000 7302250 98 22315 553 [some (.ref 0), some (.ref 2), some (.ref 93), some (.ref 94), some (.ref 95), none, some (.ref 96), some (.ref 97), some (.ref 98), none, none, none, none, none, none, none, none, none, none, none, none, none] [.ref 99] (jRx 100) w23) h fun w23 h => ?_
              refine ev_seg (o := 10) (nL := 22) (q := 557) (xs := [(.astore 9, 2, 9, 0, .null), (.bipush 16, 2, 0, 0, .int 16)]) (L' := [some (.ref 0), some (.ref 2), some (.ref 93), some (.ref 94), some (.ref 95), none, some (.ref 96), some (.ref 97), some (.ref 98), some (.ref 99), none, none, none, none, none, none, none, none, none, none, none, none]) (st' := [.int 16]) (w' := w23) (g := []) (K := []) (by decide +kernel) rfl rfl rfl rfl jk0 ?_
              refine ev_newx (kk := 100) (kd := 20) (ty := .int) (atype := .int) (N := 16) (by decide +kernel) rfl (by decide +kernel) (Or.inl ⟨rfl, rfl⟩) ja_int (by decide +kernel) (by decide +kernel) (Nat.le_of_ble_eq_true rfl) (Nat.le_of_ble_eq_true rfl) (Nat.le_of_ble_eq_true rfl) ?_
              refine jlw_c (P := fun w24 => Ev l G room_1 y_Law_law (some (.int z.1), (jRx 105), z.2) 600000 7302250 99 22331 559 [some (.ref 0), some (.ref 2), some (.ref 93), some (.ref 94), some (.ref 95), none, some (.ref 96), some (.ref 97), some (.ref 98), some (.ref 99), none, none, none, none, none, none, none, none, none, none, none, none] [.ref 100] (jRx 101) w24) h fun w24 h => ?_
              refine ev_seg (o := 10) (nL := 22) (q := 573) (xs := [(.astore 10, 2, 10, 0, .null), (.iconst 0, 1, 0, 0, .int 0), (.istore 11, 2, 11, 0, .null), (.iconst 0, 1, 0, 0, .int 0), (.istore 12, 2, 12, 0, .null), (.iconst 0, 1, 0, 0, .int 0), (.istore 13, 2, 13, 0, .null), (.iconst 0, 1, 0, 0, .int 0), (.istore 14, 2, 14, 0, .null)]) (L' := [some (.ref 0), some (.ref 2), some (.ref 93), some (.ref 94), some (.ref 95), none, some (.ref 96), some (.ref 97), some (.ref 98), some (.ref 99), some (.ref 100), some (.int 0), some (.int 0), some (.int 0), some (.int 0), none, none, none, none, none, none, none]) (st' := []) (w' := w24) (g := []) (K := []) (by decide +kernel) rfl rfl rfl rfl jk0 ?_
              refine ev_mask [true, true, true, true, true, false, true, true, true, true, true, true, true, true, true, false, false, false, false, false, false, false] ?_
              exact t_Law_law_h573 hG hxs hLs jfu _ _ _ _ _ _ h
            · replace h := jpos c192 h
              cases h
    · replace h := jpos c202 h
      obtain ⟨hg196, h⟩ := jgd h
      refine ev_seg (o := 10) (nL := 22) (q := 396) (xs := [(.aload_n 1, 1, 1, 0, .null), (.iload 6, 2, 6, 0, .null), (.iconst 5, 1, 0, 0, .int 5), (.idiv, 1, 0, 0, .null), (.iload 6, 2, 6, 0, .null), (.iconst 5, 1, 0, 0, .int 5), (.irem, 1, 0, 0, .null)]) (L' := [some (.ref 0), some (.ref 2), some (.ref 93), some (.ref 94), some (.ref 95), none, some (.int x6), none, none, none, none, none, none, none, none, none, none, none, none, none, none, none]) (st' := [.int (x6 - x6 / 5 * 5), .int (x6 / 5), .ref 2]) (w' := w) (g := [!(5 == 0), !(5 == 0)]) (K := []) (by decide +kernel) rfl rfl rfl hg196 jk0 ?_
      obtain ⟨q197, hq197, h⟩ := jbe h
      refine ev_callV (ci := 9) (a := 2) (y2 := y_Count_way) (o := 10) (idx := 31) (d2 := d_Count_way) (n := 2) (mc2 := 0) (ms2 := 0) (As := [.int (x6 / 5), .int (x6 - x6 / 5 * 5)]) (st := []) (res2 := (some (.int q197.1), (jRx 96), q197.2)) (by decide +kernel) rfl lk_10_31 mo_Count_way mv_Count_way ⟨Nat.le_of_ble_eq_true rfl, Nat.le_of_ble_eq_true rfl⟩ rfl rfl (kz_2 (Nat.le_of_ble_eq_true rfl)) (by decide) rfl (Nat.le_of_ble_eq_true rfl) ⟨Nat.le_of_ble_eq_true rfl, Nat.le_of_ble_eq_true rfl⟩ hG (e_Count_way hG (Nat.le_of_ble_eq_true rfl) hq197) ?_
      obtain ⟨hg198, h⟩ := jgd h
      refine ev_seg (o := 10) (nL := 22) (q := 407) (xs := [(.aload 4, 2, 4, 0, .null), (.iload 6, 2, 6, 0, .null), (.iaload, 1, 0, 0, .null), (.sipush 900, 3, 0, 0, .int 900)]) (L' := [some (.ref 0), some (.ref 2), some (.ref 93), some (.ref 94), some (.ref 95), none, some (.int x6), none, none, none, none, none, none, none, none, none, none, none, none, none, none, none]) (st' := [.int 900, .int (q197.2.1 95 (Int32.toNatClampNeg x6)), .int q197.1]) (w' := q197.2) (g := [jin x6 25]) (K := [(95, 20)]) (by decide +kernel) rfl rfl rfl hg198 (jk1 (rfl) jk0) ?_
      refine ev_icmp_le (off := 7) (tgt := 414) (by decide +kernel) (by decide) (fun c201 => ?_) (fun c201 => ?_)
      · replace h := jpos c201 h
        obtain ⟨hg199, h⟩ := jgd h
        refine ev_seg (o := 10) (nL := 22) (q := 419) (xs := [(.aload 4, 2, 4, 0, .null), (.iload 6, 2, 6, 0, .null), (.iaload, 1, 0, 0, .null)]) (L' := [some (.ref 0), some (.ref 2), some (.ref 93), some (.ref 94), some (.ref 95), none, some (.int x6), none, none, none, none, none, none, none, none, none, none, none, none, none, none, none]) (st' := [.int (q197.2.1 95 (Int32.toNatClampNeg x6)), .int q197.1]) (w' := q197.2) (g := [jin x6 25]) (K := [(95, 20)]) (by decide +kernel) rfl rfl rfl hg199 (jk1 (rfl) jk0) ?_
        refine ev_mask [true, true, true, true, true, false, true, false, false, false, false, false, false, false, false, false, false, false, false, false, false, false] ?_
        exact t_Law_law_j419 hG hxs hLs ih h
      · replace h := jneg c201 h
        refine ev_seg (o := 10) (nL := 22) (q := 419) (xs := [(.iconst (-1), 1, 0, 0, .int (-1)), (.goto 8, 3, 0, 0, .null)]) (L' := [some (.ref 0), some (.ref 2), some (.ref 93), some (.ref 94), some (.ref 95), none, some (.int x6), none, none, none, none, none, none, none, none, none, none, none, none, none, none, none]) (st' := [.int (-1), .int q197.1]) (w' := q197.2) (g := []) (K := []) (by decide +kernel) rfl rfl rfl rfl jk0 ?_
        refine ev_mask [true, true, true, true, true, false, true, false, false, false, false, false, false, false, false, false, false, false, false, false, false, false] ?_
        exact t_Law_law_j419 hG hxs hLs ih h
def f_Law_law_h309 (xs : Nat → Int32) (Ls : Nat) (k291 : Int32 → jW → Option (Int32 × jW)) (k300 : Int32 → Int32 → jW → Option (Int32 × jW)) : Nat → Int32 → Int32 → Int32 → jW → Option (Int32 × jW)
  | 0, _, _, _, _ => none
  | n + 1, x6, x7, x8, w =>
  if x8 < 5 then
    if jal [jin ((5 * x6) + x8) 25, jin ((5 * x7) + x6) 25, jin ((5 * x7) + x8) 25] = true then
    if jal [jin ((5 * x7) + x8) 25] = true then
    jlw ((jup w.1 95 (Int32.toNatClampNeg ((5 * x7) + x8)) (if ((w.1 95 (Int32.toNatClampNeg ((5 * x7) + x6))) + (w.1 95 (Int32.toNatClampNeg ((5 * x6) + x8)))) < (w.1 95 (Int32.toNatClampNeg ((5 * x7) + x8))) then ((w.1 95 (Int32.toNatClampNeg ((5 * x7) + x6))) + (w.1 95 (Int32.toNatClampNeg ((5 * x6) + x8)))) else (w.1 95 (Int32.toNatClampNeg ((5 * x7) + x8))))), w.2) fun w205 =>
    (f_Law_law_h309 xs Ls k291 k300 n) x6 x7 (x8 + 1) w205
    else none
    else none
  else
    k300 x6 (x7 + 1) w
set_option maxRecDepth 20000 in
set_option maxHeartbeats 40000000 in
theorem t_Law_law_h309 {l : Launch} {G : jG} (hG : jX G) {xs : Nat → Int32} {Ls : Nat} (hxs : True) (hLs : jscr G Ls xs) {k291 : Int32 → jW → Option (Int32 × jW)} {k300 : Int32 → Int32 → jW → Option (Int32 × jW)} (hk291 : ∀ (x6 : Int32) (w : jW) (z : (Int32 × jW)), k291 x6 w = some z → Ev l G room_1 y_Law_law (some (.int z.1), (jRx 105), z.2) 600000 7302250 94 22197 291 [some (.ref 0), some (.ref 2), some (.ref 93), some (.ref 94), some (.ref 95), none, some (.int x6), none, none, none, none, none, none, none, none, none, none, none, none, none, none, none] [] (jRx 96) w) (hk300 : ∀ (x6 : Int32) (x7 : Int32) (w : jW) (z : (Int32 × jW)), k300 x6 x7 w = some z → Ev l G room_1 y_Law_law (some (.int z.1), (jRx 105), z.2) 600000 7302250 94 22197 300 [some (.ref 0), some (.ref 2), some (.ref 93), some (.ref 94), some (.ref 95), none, some (.int x6), some (.int x7), none, none, none, none, none, none, none, none, none, none, none, none, none, none] [] (jRx 96) w) : ∀ (n : Nat) (x6 : Int32) (x7 : Int32) (x8 : Int32) (w : jW) (z : (Int32 × jW)), f_Law_law_h309 xs Ls k291 k300 n x6 x7 x8 w = some z → Ev l G room_1 y_Law_law (some (.int z.1), (jRx 105), z.2) 600000 7302250 94 22197 309 [some (.ref 0), some (.ref 2), some (.ref 93), some (.ref 94), some (.ref 95), none, some (.int x6), some (.int x7), some (.int x8), none, none, none, none, none, none, none, none, none, none, none, none, none] [] (jRx 96) w := by
  intro n
  induction n with
  | zero => intro x6 x7 x8 w z h; simp only [f_Law_law_h309] at h; cases h
  | succ n ih =>
    intro x6 x7 x8 w z h
    rw [f_Law_law_h309] at h
    refine ev_seg (o := 10) (nL := 22) (q := 312) (xs := [(.iload 8, 2, 8, 0, .null), (.iconst 5, 1, 0, 0, .int 5)]) (L' := [some (.ref 0), some (.ref 2), some (.ref 93), some (.ref 94), some (.ref 95), none, some (.int x6), some (.int x7), some (.int x8), none, none, none, none, none, none, none, none, none, none, none, none, none]) (st' := [.int 5, .int x8]) (w' := w) (g := []) (K := []) (by decide +kernel) rfl rfl rfl rfl jk0 ?_
    refine ev_icmp_ge (off := 53) (tgt := 365) (by decide +kernel) (by decide) (fun c206 => ?_) (fun c206 => ?_)
    · replace h := jneg c206 h
      refine ev_seg (o := 10) (nL := 22) (q := 300) (xs := [(.iinc 7 1, 3, 7, 0, .int 1), (.goto (-68), 3, 0, 0, .null)]) (L' := [some (.ref 0), some (.ref 2), some (.ref 93), some (.ref 94), some (.ref 95), none, some (.int x6), some (.int (x7 + 1)), some (.int x8), none, none, none, none, none, none, none, none, none, none, none, none, none]) (st' := []) (w' := w) (g := []) (K := []) (by decide +kernel) rfl rfl rfl rfl jk0 ?_
      refine ev_mask [true, true, true, true, true, false, true, true, false, false, false, false, false, false, false, false, false, false, false, false, false, false] ?_
      exact hk300 _ _ _ _ h
    · replace h := jpos c206 h
      obtain ⟨hg203, h⟩ := jgd h
      refine ev_seg (o := 10) (nL := 22) (q := 355) (xs := [(.aload 4, 2, 4, 0, .null), (.iconst 5, 1, 0, 0, .int 5), (.iload 7, 2, 7, 0, .null), (.imul, 1, 0, 0, .null), (.iload 8, 2, 8, 0, .null), (.iadd, 1, 0, 0, .null), (.aload 4, 2, 4, 0, .null), (.iconst 5, 1, 0, 0, .int 5), (.iload 7, 2, 7, 0, .null), (.imul, 1, 0, 0, .null), (.iload 8, 2, 8, 0, .null), (.iadd, 1, 0, 0, .null), (.iaload, 1, 0, 0, .null), (.aload 4, 2, 4, 0, .null), (.iconst 5, 1, 0, 0, .int 5), (.iload 7, 2, 7, 0, .null), (.imul, 1, 0, 0, .null), (.iload 6, 2, 6, 0, .null), (.iadd, 1, 0, 0, .null), (.iaload, 1, 0, 0, .null), (.aload 4, 2, 4, 0, .null), (.iconst 5, 1, 0, 0, .int 5), (.iload 6, 2, 6, 0, .null), (.imul, 1, 0, 0, .null), (.iload 8, 2, 8, 0, .null), (.iadd, 1, 0, 0, .null), (.iaload, 1, 0, 0, .null), (.iadd, 1, 0, 0, .null)]) (L' := [some (.ref 0), some (.ref 2), some (.ref 93), some (.ref 94), some (.ref 95), none, some (.int x6), some (.int x7), some (.int x8), none, none, none, none, none, none, none, none, none, none, none, none, none]) (st' := [.int ((w.1 95 (Int32.toNatClampNeg ((5 * x7) + x6))) + (w.1 95 (Int32.toNatClampNeg ((5 * x6) + x8)))), .int (w.1 95 (Int32.toNatClampNeg ((5 * x7) + x8))), .int ((5 * x7) + x8), .ref 95]) (w' := w) (g := [jin ((5 * x6) + x8) 25, jin ((5 * x7) + x6) 25, jin ((5 * x7) + x8) 25]) (K := [(95, 20), (95, 20), (95, 20)]) (by decide +kernel) rfl rfl rfl hg203 (jk1 (rfl) (jk1 (rfl) (jk1 (rfl) jk0))) ?_
      refine ev_min (o := 10) (idx := 25) (by decide +kernel) rfl lk_10_25 ms_min hMath mc_min (Nat.le_of_ble_eq_true rfl) (Nat.le_of_ble_eq_true rfl) (Nat.le_of_ble_eq_true rfl) (Nat.le_of_ble_eq_true rfl) ?_
      obtain ⟨hg204, h⟩ := jgd h
      refine ev_seg (o := 10) (nL := 22) (q := 359) (xs := [(.iastore, 1, 0, 0, .null)]) (L' := [some (.ref 0), some (.ref 2), some (.ref 93), some (.ref 94), some (.ref 95), none, some (.int x6), some (.int x7), some (.int x8), none, none, none, none, none, none, none, none, none, none, none, none, none]) (st' := []) (w' := ((jup w.1 95 (Int32.toNatClampNeg ((5 * x7) + x8)) (if ((w.1 95 (Int32.toNatClampNeg ((5 * x7) + x6))) + (w.1 95 (Int32.toNatClampNeg ((5 * x6) + x8)))) < (w.1 95 (Int32.toNatClampNeg ((5 * x7) + x8))) then ((w.1 95 (Int32.toNatClampNeg ((5 * x7) + x6))) + (w.1 95 (Int32.toNatClampNeg ((5 * x6) + x8)))) else (w.1 95 (Int32.toNatClampNeg ((5 * x7) + x8))))), w.2)) (g := [jin ((5 * x7) + x8) 25]) (K := [(95, 20)]) (by decide +kernel) rfl rfl rfl hg204 (jk1 (rfl) jk0) ?_
      refine jlw_c (P := fun w205 => Ev l G room_1 y_Law_law (some (.int z.1), (jRx 105), z.2) 600000 7302250 94 22197 359 [some (.ref 0), some (.ref 2), some (.ref 93), some (.ref 94), some (.ref 95), none, some (.int x6), some (.int x7), some (.int x8), none, none, none, none, none, none, none, none, none, none, none, none, none] [] (jRx 96) w205) h fun w205 h => ?_
      refine ev_seg (o := 10) (nL := 22) (q := 309) (xs := [(.iinc 8 1, 3, 8, 0, .int 1), (.goto (-53), 3, 0, 0, .null)]) (L' := [some (.ref 0), some (.ref 2), some (.ref 93), some (.ref 94), some (.ref 95), none, some (.int x6), some (.int x7), some (.int (x8 + 1)), none, none, none, none, none, none, none, none, none, none, none, none, none]) (st' := []) (w' := w205) (g := []) (K := []) (by decide +kernel) rfl rfl rfl rfl jk0 ?_
      refine ev_mask [true, true, true, true, true, false, true, true, true, false, false, false, false, false, false, false, false, false, false, false, false, false] ?_
      exact ih _ _ _ _ _ h
def f_Law_law_h300 (xs : Nat → Int32) (Ls : Nat) (k291 : Int32 → jW → Option (Int32 × jW)) : Nat → Int32 → Int32 → jW → Option (Int32 × jW)
  | 0, _, _, _ => none
  | n + 1, x6, x7, w =>
  if x7 < 5 then
    f_Law_law_h309 xs Ls k291 (f_Law_law_h300 xs Ls k291 n) jfu x6 x7 0 w
  else
    k291 (x6 + 1) w
set_option maxRecDepth 20000 in
set_option maxHeartbeats 40000000 in
theorem t_Law_law_h300 {l : Launch} {G : jG} (hG : jX G) {xs : Nat → Int32} {Ls : Nat} (hxs : True) (hLs : jscr G Ls xs) {k291 : Int32 → jW → Option (Int32 × jW)} (hk291 : ∀ (x6 : Int32) (w : jW) (z : (Int32 × jW)), k291 x6 w = some z → Ev l G room_1 y_Law_law (some (.int z.1), (jRx 105), z.2) 600000 7302250 94 22197 291 [some (.ref 0), some (.ref 2), some (.ref 93), some (.ref 94), some (.ref 95), none, some (.int x6), none, none, none, none, none, none, none, none, none, none, none, none, none, none, none] [] (jRx 96) w) : ∀ (n : Nat) (x6 : Int32) (x7 : Int32) (w : jW) (z : (Int32 × jW)), f_Law_law_h300 xs Ls k291 n x6 x7 w = some z → Ev l G room_1 y_Law_law (some (.int z.1), (jRx 105), z.2) 600000 7302250 94 22197 300 [some (.ref 0), some (.ref 2), some (.ref 93), some (.ref 94), some (.ref 95), none, some (.int x6), some (.int x7), none, none, none, none, none, none, none, none, none, none, none, none, none, none] [] (jRx 96) w := by
  intro n
  induction n with
  | zero => intro x6 x7 w z h; simp only [f_Law_law_h300] at h; cases h
  | succ n ih =>
    intro x6 x7 w z h
    rw [f_Law_law_h300] at h
    refine ev_seg (o := 10) (nL := 22) (q := 303) (xs := [(.iload 7, 2, 7, 0, .null), (.iconst 5, 1, 0, 0, .int 5)]) (L' := [some (.ref 0), some (.ref 2), some (.ref 93), some (.ref 94), some (.ref 95), none, some (.int x6), some (.int x7), none, none, none, none, none, none, none, none, none, none, none, none, none, none]) (st' := [.int 5, .int x7]) (w' := w) (g := []) (K := []) (by decide +kernel) rfl rfl rfl rfl jk0 ?_
    refine ev_icmp_ge (off := 68) (tgt := 371) (by decide +kernel) (by decide) (fun c207 => ?_) (fun c207 => ?_)
    · replace h := jneg c207 h
      refine ev_seg (o := 10) (nL := 22) (q := 291) (xs := [(.iinc 6 1, 3, 6, 0, .int 1), (.goto (-83), 3, 0, 0, .null)]) (L' := [some (.ref 0), some (.ref 2), some (.ref 93), some (.ref 94), some (.ref 95), none, some (.int (x6 + 1)), some (.int x7), none, none, none, none, none, none, none, none, none, none, none, none, none, none]) (st' := []) (w' := w) (g := []) (K := []) (by decide +kernel) rfl rfl rfl rfl jk0 ?_
      refine ev_mask [true, true, true, true, true, false, true, false, false, false, false, false, false, false, false, false, false, false, false, false, false, false] ?_
      exact hk291 _ _ _ h
    · replace h := jpos c207 h
      refine ev_seg (o := 10) (nL := 22) (q := 309) (xs := [(.iconst 0, 1, 0, 0, .int 0), (.istore 8, 2, 8, 0, .null)]) (L' := [some (.ref 0), some (.ref 2), some (.ref 93), some (.ref 94), some (.ref 95), none, some (.int x6), some (.int x7), some (.int 0), none, none, none, none, none, none, none, none, none, none, none, none, none]) (st' := []) (w' := w) (g := []) (K := []) (by decide +kernel) rfl rfl rfl rfl jk0 ?_
      refine ev_mask [true, true, true, true, true, false, true, true, true, false, false, false, false, false, false, false, false, false, false, false, false, false] ?_
      exact t_Law_law_h309 hG hxs hLs hk291 ih jfu _ _ _ _ _ h
def f_Law_law_h291 (xs : Nat → Int32) (Ls : Nat) : Nat → Int32 → jW → Option (Int32 × jW)
  | 0, _, _ => none
  | n + 1, x6, w =>
  if x6 < 5 then
    f_Law_law_h300 xs Ls (f_Law_law_h291 xs Ls n) jfu x6 0 w
  else
    f_Law_law_h380 xs Ls jfu 0 w
set_option maxRecDepth 20000 in
set_option maxHeartbeats 40000000 in
theorem t_Law_law_h291 {l : Launch} {G : jG} (hG : jX G) {xs : Nat → Int32} {Ls : Nat} (hxs : True) (hLs : jscr G Ls xs) : ∀ (n : Nat) (x6 : Int32) (w : jW) (z : (Int32 × jW)), f_Law_law_h291 xs Ls n x6 w = some z → Ev l G room_1 y_Law_law (some (.int z.1), (jRx 105), z.2) 600000 7302250 94 22197 291 [some (.ref 0), some (.ref 2), some (.ref 93), some (.ref 94), some (.ref 95), none, some (.int x6), none, none, none, none, none, none, none, none, none, none, none, none, none, none, none] [] (jRx 96) w := by
  intro n
  induction n with
  | zero => intro x6 w z h; simp only [f_Law_law_h291] at h; cases h
  | succ n ih =>
    intro x6 w z h
    rw [f_Law_law_h291] at h
    refine ev_seg (o := 10) (nL := 22) (q := 294) (xs := [(.iload 6, 2, 6, 0, .null), (.iconst 5, 1, 0, 0, .int 5)]) (L' := [some (.ref 0), some (.ref 2), some (.ref 93), some (.ref 94), some (.ref 95), none, some (.int x6), none, none, none, none, none, none, none, none, none, none, none, none, none, none, none]) (st' := [.int 5, .int x6]) (w' := w) (g := []) (K := []) (by decide +kernel) rfl rfl rfl rfl jk0 ?_
    refine ev_icmp_ge (off := 83) (tgt := 377) (by decide +kernel) (by decide) (fun c208 => ?_) (fun c208 => ?_)
    · replace h := jneg c208 h
      refine ev_seg (o := 10) (nL := 22) (q := 380) (xs := [(.iconst 0, 1, 0, 0, .int 0), (.istore 6, 2, 6, 0, .null)]) (L' := [some (.ref 0), some (.ref 2), some (.ref 93), some (.ref 94), some (.ref 95), none, some (.int 0), none, none, none, none, none, none, none, none, none, none, none, none, none, none, none]) (st' := []) (w' := w) (g := []) (K := []) (by decide +kernel) rfl rfl rfl rfl jk0 ?_
      refine ev_mask [true, true, true, true, true, false, true, false, false, false, false, false, false, false, false, false, false, false, false, false, false, false] ?_
      exact t_Law_law_h380 hG hxs hLs jfu _ _ _ h
    · replace h := jpos c208 h
      refine ev_seg (o := 10) (nL := 22) (q := 300) (xs := [(.iconst 0, 1, 0, 0, .int 0), (.istore 7, 2, 7, 0, .null)]) (L' := [some (.ref 0), some (.ref 2), some (.ref 93), some (.ref 94), some (.ref 95), none, some (.int x6), some (.int 0), none, none, none, none, none, none, none, none, none, none, none, none, none, none]) (st' := []) (w' := w) (g := []) (K := []) (by decide +kernel) rfl rfl rfl rfl jk0 ?_
      refine ev_mask [true, true, true, true, true, false, true, true, false, false, false, false, false, false, false, false, false, false, false, false, false, false] ?_
      exact t_Law_law_h300 hG hxs hLs ih jfu _ _ _ _ h
def f_Law_law_j219 (xs : Nat → Int32) (Ls : Nat) (k153 : Int32 → Int32 → jW → Option (Int32 × jW)) (x5 : Int32) (x6 : Int32) (x8 : Int32) (x9 : Int32) (x10 : Int32) (s0 : Int32) (s1 : Int32) (w : jW) : Option (Int32 × jW) :=
  if s1 = s0 then
    if x8 = x9 then
      k153 x5 (x6 + 1) w
    else
      if jal [jin ((5 * x8) + x9) 25] = true then
      if jal [jin ((5 * x8) + x9) 25] = true then
      jlw ((jup w.1 95 (Int32.toNatClampNeg ((5 * x8) + x9)) (if x10 < (w.1 95 (Int32.toNatClampNeg ((5 * x8) + x9))) then x10 else (w.1 95 (Int32.toNatClampNeg ((5 * x8) + x9))))), w.2) fun w214 =>
      if jal [jin ((5 * x9) + x8) 25, jin ((5 * x8) + x9) 25] = true then
      jlw ((jup w214.1 95 (Int32.toNatClampNeg ((5 * x9) + x8)) (w214.1 95 (Int32.toNatClampNeg ((5 * x8) + x9)))), w214.2) fun w216 =>
      k153 (x5 + 1) (x6 + 1) w216
      else none else none
      else none
  else
    none
set_option maxRecDepth 20000 in
set_option maxHeartbeats 40000000 in
theorem t_Law_law_j219 {l : Launch} {G : jG} (hG : jX G) {xs : Nat → Int32} {Ls : Nat} (hxs : True) (hLs : jscr G Ls xs) {k153 : Int32 → Int32 → jW → Option (Int32 × jW)} (hk153 : ∀ (x5 : Int32) (x6 : Int32) (w : jW) (z : (Int32 × jW)), k153 x5 x6 w = some z → Ev l G room_1 y_Law_law (some (.int z.1), (jRx 105), z.2) 600000 7302250 94 22197 153 [some (.ref 0), some (.ref 2), some (.ref 93), some (.ref 94), some (.ref 95), some (.int x5), some (.int x6), none, none, none, none, none, none, none, none, none, none, none, none, none, none, none] [] (jRx 96) w) {x5 : Int32} {x6 : Int32} {x8 : Int32} {x9 : Int32} {x10 : Int32} {s0 : Int32} {s1 : Int32} {w : jW} {z : (Int32 × jW)} (h : f_Law_law_j219 xs Ls k153 x5 x6 x8 x9 x10 s0 s1 w = some z) : Ev l G room_1 y_Law_law (some (.int z.1), (jRx 105), z.2) 600000 7302250 94 22197 219 [some (.ref 0), some (.ref 2), some (.ref 93), some (.ref 94), some (.ref 95), some (.int x5), some (.int x6), none, some (.int x8), some (.int x9), some (.int x10), none, none, none, none, none, none, none, none, none, none, none] [.int s0, .int s1] (jRx 96) w := by
  rw [f_Law_law_j219] at h
  refine ev_icmp_eq (off := 5) (tgt := 224) (by decide +kernel) (by decide) (fun c218 => ?_) (fun c218 => ?_)
  · replace h := jpos c218 h
    refine ev_seg (o := 10) (nL := 22) (q := 228) (xs := [(.iload 8, 2, 8, 0, .null), (.iload 9, 2, 9, 0, .null)]) (L' := [some (.ref 0), some (.ref 2), some (.ref 93), some (.ref 94), some (.ref 95), some (.int x5), some (.int x6), none, some (.int x8), some (.int x9), some (.int x10), none, none, none, none, none, none, none, none, none, none, none]) (st' := [.int x9, .int x8]) (w' := w) (g := []) (K := []) (by decide +kernel) rfl rfl rfl rfl jk0 ?_
    refine ev_icmp_ne (off := 6) (tgt := 234) (by decide +kernel) (by decide) (fun c217 => ?_) (fun c217 => ?_)
    · replace h := jneg c217 h
      obtain ⟨hg212, h⟩ := jgd h
      refine ev_seg (o := 10) (nL := 22) (q := 258) (xs := [(.iinc 5 1, 3, 5, 0, .int 1), (.aload 4, 2, 4, 0, .null), (.iconst 5, 1, 0, 0, .int 5), (.iload 8, 2, 8, 0, .null), (.imul, 1, 0, 0, .null), (.iload 9, 2, 9, 0, .null), (.iadd, 1, 0, 0, .null), (.aload 4, 2, 4, 0, .null), (.iconst 5, 1, 0, 0, .int 5), (.iload 8, 2, 8, 0, .null), (.imul, 1, 0, 0, .null), (.iload 9, 2, 9, 0, .null), (.iadd, 1, 0, 0, .null), (.iaload, 1, 0, 0, .null), (.iload 10, 2, 10, 0, .null)]) (L' := [some (.ref 0), some (.ref 2), some (.ref 93), some (.ref 94), some (.ref 95), some (.int (x5 + 1)), some (.int x6), none, some (.int x8), some (.int x9), some (.int x10), none, none, none, none, none, none, none, none, none, none, none]) (st' := [.int x10, .int (w.1 95 (Int32.toNatClampNeg ((5 * x8) + x9))), .int ((5 * x8) + x9), .ref 95]) (w' := w) (g := [jin ((5 * x8) + x9) 25]) (K := [(95, 20)]) (by decide +kernel) rfl rfl rfl hg212 (jk1 (rfl) jk0) ?_
      refine ev_min (o := 10) (idx := 25) (by decide +kernel) rfl lk_10_25 ms_min hMath mc_min (Nat.le_of_ble_eq_true rfl) (Nat.le_of_ble_eq_true rfl) (Nat.le_of_ble_eq_true rfl) (Nat.le_of_ble_eq_true rfl) ?_
      obtain ⟨hg213, h⟩ := jgd h
      refine ev_seg (o := 10) (nL := 22) (q := 262) (xs := [(.iastore, 1, 0, 0, .null)]) (L' := [some (.ref 0), some (.ref 2), some (.ref 93), some (.ref 94), some (.ref 95), some (.int (x5 + 1)), some (.int x6), none, some (.int x8), some (.int x9), some (.int x10), none, none, none, none, none, none, none, none, none, none, none]) (st' := []) (w' := ((jup w.1 95 (Int32.toNatClampNeg ((5 * x8) + x9)) (if x10 < (w.1 95 (Int32.toNatClampNeg ((5 * x8) + x9))) then x10 else (w.1 95 (Int32.toNatClampNeg ((5 * x8) + x9))))), w.2)) (g := [jin ((5 * x8) + x9) 25]) (K := [(95, 20)]) (by decide +kernel) rfl rfl rfl hg213 (jk1 (rfl) jk0) ?_
      refine jlw_c (P := fun w214 => Ev l G room_1 y_Law_law (some (.int z.1), (jRx 105), z.2) 600000 7302250 94 22197 262 [some (.ref 0), some (.ref 2), some (.ref 93), some (.ref 94), some (.ref 95), some (.int (x5 + 1)), some (.int x6), none, some (.int x8), some (.int x9), some (.int x10), none, none, none, none, none, none, none, none, none, none, none] [] (jRx 96) w214) h fun w214 h => ?_
      obtain ⟨hg215, h⟩ := jgd h
      refine ev_seg (o := 10) (nL := 22) (q := 282) (xs := [(.aload 4, 2, 4, 0, .null), (.iconst 5, 1, 0, 0, .int 5), (.iload 9, 2, 9, 0, .null), (.imul, 1, 0, 0, .null), (.iload 8, 2, 8, 0, .null), (.iadd, 1, 0, 0, .null), (.aload 4, 2, 4, 0, .null), (.iconst 5, 1, 0, 0, .int 5), (.iload 8, 2, 8, 0, .null), (.imul, 1, 0, 0, .null), (.iload 9, 2, 9, 0, .null), (.iadd, 1, 0, 0, .null), (.iaload, 1, 0, 0, .null), (.iastore, 1, 0, 0, .null)]) (L' := [some (.ref 0), some (.ref 2), some (.ref 93), some (.ref 94), some (.ref 95), some (.int (x5 + 1)), some (.int x6), none, some (.int x8), some (.int x9), some (.int x10), none, none, none, none, none, none, none, none, none, none, none]) (st' := []) (w' := ((jup w214.1 95 (Int32.toNatClampNeg ((5 * x9) + x8)) (w214.1 95 (Int32.toNatClampNeg ((5 * x8) + x9)))), w214.2)) (g := [jin ((5 * x9) + x8) 25, jin ((5 * x8) + x9) 25]) (K := [(95, 20), (95, 20)]) (by decide +kernel) rfl rfl rfl hg215 (jk1 (rfl) (jk1 (rfl) jk0)) ?_
      refine jlw_c (P := fun w216 => Ev l G room_1 y_Law_law (some (.int z.1), (jRx 105), z.2) 600000 7302250 94 22197 282 [some (.ref 0), some (.ref 2), some (.ref 93), some (.ref 94), some (.ref 95), some (.int (x5 + 1)), some (.int x6), none, some (.int x8), some (.int x9), some (.int x10), none, none, none, none, none, none, none, none, none, none, none] [] (jRx 96) w216) h fun w216 h => ?_
      refine ev_seg (o := 10) (nL := 22) (q := 153) (xs := [(.iinc 6 1, 3, 6, 0, .int 1), (.goto (-132), 3, 0, 0, .null)]) (L' := [some (.ref 0), some (.ref 2), some (.ref 93), some (.ref 94), some (.ref 95), some (.int (x5 + 1)), some (.int (x6 + 1)), none, some (.int x8), some (.int x9), some (.int x10), none, none, none, none, none, none, none, none, none, none, none]) (st' := []) (w' := w216) (g := []) (K := []) (by decide +kernel) rfl rfl rfl rfl jk0 ?_
      refine ev_mask [true, true, true, true, true, true, true, false, false, false, false, false, false, false, false, false, false, false, false, false, false, false] ?_
      exact hk153 _ _ _ _ h
    · replace h := jpos c217 h
      refine ev_seg (o := 10) (nL := 22) (q := 153) (xs := [(.goto 51, 3, 0, 0, .null), (.iinc 6 1, 3, 6, 0, .int 1), (.goto (-132), 3, 0, 0, .null)]) (L' := [some (.ref 0), some (.ref 2), some (.ref 93), some (.ref 94), some (.ref 95), some (.int x5), some (.int (x6 + 1)), none, some (.int x8), some (.int x9), some (.int x10), none, none, none, none, none, none, none, none, none, none, none]) (st' := []) (w' := w) (g := []) (K := []) (by decide +kernel) rfl rfl rfl rfl jk0 ?_
      refine ev_mask [true, true, true, true, true, true, true, false, false, false, false, false, false, false, false, false, false, false, false, false, false, false] ?_
      exact hk153 _ _ _ _ h
  · replace h := jneg c218 h
    cases h
def f_Law_law_h153 (xs : Nat → Int32) (Ls : Nat) : Nat → Int32 → Int32 → jW → Option (Int32 × jW)
  | 0, _, _, _ => none
  | n + 1, x5, x6, w =>
  if x6 < 6 then
    Option.bind (f_Law_pick xs Ls (5 + x6) w) fun q209 =>
    if jal [!(9 == 0), !(5 == 0), !(5 == 0)] = true then
    Option.bind (f_Count_road (q209.1 - q209.1 / 5 * 5) ((q209.1 >>> ((3 : Int32) &&& 31)) - (q209.1 >>> ((3 : Int32) &&& 31)) / 5 * 5) (1 + ((q209.1 >>> ((6 : Int32) &&& 31)) - (q209.1 >>> ((6 : Int32) &&& 31)) / 9 * 9)) q209.2) fun q211 =>
    if (q209.1 - q209.1 / 5 * 5) = ((q209.1 >>> ((3 : Int32) &&& 31)) - (q209.1 >>> ((3 : Int32) &&& 31)) / 5 * 5) then
      f_Law_law_j219 xs Ls (f_Law_law_h153 xs Ls n) x5 x6 (q209.1 - q209.1 / 5 * 5) ((q209.1 >>> ((3 : Int32) &&& 31)) - (q209.1 >>> ((3 : Int32) &&& 31)) / 5 * 5) (1 + ((q209.1 >>> ((6 : Int32) &&& 31)) - (q209.1 >>> ((6 : Int32) &&& 31)) / 9 * 9)) (-1) q211.1 q211.2
    else
      f_Law_law_j219 xs Ls (f_Law_law_h153 xs Ls n) x5 x6 (q209.1 - q209.1 / 5 * 5) ((q209.1 >>> ((3 : Int32) &&& 31)) - (q209.1 >>> ((3 : Int32) &&& 31)) / 5 * 5) (1 + ((q209.1 >>> ((6 : Int32) &&& 31)) - (q209.1 >>> ((6 : Int32) &&& 31)) / 9 * 9)) x5 q211.1 q211.2
    else none
  else
    f_Law_law_h291 xs Ls jfu 0 w
set_option maxRecDepth 20000 in
set_option maxHeartbeats 40000000 in
theorem t_Law_law_h153 {l : Launch} {G : jG} (hG : jX G) {xs : Nat → Int32} {Ls : Nat} (hxs : True) (hLs : jscr G Ls xs) : ∀ (n : Nat) (x5 : Int32) (x6 : Int32) (w : jW) (z : (Int32 × jW)), f_Law_law_h153 xs Ls n x5 x6 w = some z → Ev l G room_1 y_Law_law (some (.int z.1), (jRx 105), z.2) 600000 7302250 94 22197 153 [some (.ref 0), some (.ref 2), some (.ref 93), some (.ref 94), some (.ref 95), some (.int x5), some (.int x6), none, none, none, none, none, none, none, none, none, none, none, none, none, none, none] [] (jRx 96) w := by
  intro n
  induction n with
  | zero => intro x5 x6 w z h; simp only [f_Law_law_h153] at h; cases h
  | succ n ih =>
    intro x5 x6 w z h
    rw [f_Law_law_h153] at h
    refine ev_seg (o := 10) (nL := 22) (q := 157) (xs := [(.iload 6, 2, 6, 0, .null), (.bipush 6, 2, 0, 0, .int 6)]) (L' := [some (.ref 0), some (.ref 2), some (.ref 93), some (.ref 94), some (.ref 95), some (.int x5), some (.int x6), none, none, none, none, none, none, none, none, none, none, none, none, none, none, none]) (st' := [.int 6, .int x6]) (w' := w) (g := []) (K := []) (by decide +kernel) rfl rfl rfl rfl jk0 ?_
    refine ev_icmp_ge (off := 131) (tgt := 288) (by decide +kernel) (by decide) (fun c220 => ?_) (fun c220 => ?_)
    · replace h := jneg c220 h
      refine ev_seg (o := 10) (nL := 22) (q := 291) (xs := [(.iconst 0, 1, 0, 0, .int 0), (.istore 6, 2, 6, 0, .null)]) (L' := [some (.ref 0), some (.ref 2), some (.ref 93), some (.ref 94), some (.ref 95), some (.int x5), some (.int 0), none, none, none, none, none, none, none, none, none, none, none, none, none, none, none]) (st' := []) (w' := w) (g := []) (K := []) (by decide +kernel) rfl rfl rfl rfl jk0 ?_
      refine ev_mask [true, true, true, true, true, false, true, false, false, false, false, false, false, false, false, false, false, false, false, false, false, false] ?_
      exact t_Law_law_h291 hG hxs hLs jfu _ _ _ h
    · replace h := jpos c220 h
      refine ev_seg (o := 10) (nL := 22) (q := 165) (xs := [(.aload_n 0, 1, 0, 0, .null), (.iconst 5, 1, 0, 0, .int 5), (.iload 6, 2, 6, 0, .null), (.iadd, 1, 0, 0, .null)]) (L' := [some (.ref 0), some (.ref 2), some (.ref 93), some (.ref 94), some (.ref 95), some (.int x5), some (.int x6), none, none, none, none, none, none, none, none, none, none, none, none, none, none, none]) (st' := [.int (5 + x6), .ref 0]) (w' := w) (g := []) (K := []) (by decide +kernel) rfl rfl rfl rfl jk0 ?_
      obtain ⟨q209, hq209, h⟩ := jbe h
      refine ev_callS (y2 := y_Law_pick) (o := 10) (idx := 11) (d2 := d_Law_pick) (n := 2) (mc2 := 0) (ms2 := 0) (As := [.ref 0, .int (5 + x6)]) (st := []) (res2 := (some (.int q209.1), (jRx 96), q209.2)) (by decide +kernel) rfl lk_10_11 mo_Law_pick ms_Law_pick ⟨Nat.le_of_ble_eq_true rfl, Nat.le_of_ble_eq_true rfl⟩ rfl rfl (Nat.le_of_ble_eq_true rfl) ⟨Nat.le_of_ble_eq_true rfl, Nat.le_of_ble_eq_true rfl⟩ hG (e_Law_pick hG (Nat.le_of_ble_eq_true rfl) hxs hLs hq209) ?_
      obtain ⟨hg210, h⟩ := jgd h
      refine ev_seg (o := 10) (nL := 22) (q := 203) (xs := [(.istore 7, 2, 7, 0, .null), (.iload 7, 2, 7, 0, .null), (.iconst 5, 1, 0, 0, .int 5), (.irem, 1, 0, 0, .null), (.istore 8, 2, 8, 0, .null), (.iload 7, 2, 7, 0, .null), (.iconst 3, 1, 0, 0, .int 3), (.ishr, 1, 0, 0, .null), (.iconst 5, 1, 0, 0, .int 5), (.irem, 1, 0, 0, .null), (.istore 9, 2, 9, 0, .null), (.iconst 1, 1, 0, 0, .int 1), (.iload 7, 2, 7, 0, .null), (.bipush 6, 2, 0, 0, .int 6), (.ishr, 1, 0, 0, .null), (.bipush 9, 2, 0, 0, .int 9), (.irem, 1, 0, 0, .null), (.iadd, 1, 0, 0, .null), (.istore 10, 2, 10, 0, .null), (.aload_n 1, 1, 1, 0, .null), (.iload 8, 2, 8, 0, .null), (.iload 9, 2, 9, 0, .null), (.iload 10, 2, 10, 0, .null)]) (L' := [some (.ref 0), some (.ref 2), some (.ref 93), some (.ref 94), some (.ref 95), some (.int x5), some (.int x6), some (.int q209.1), some (.int (q209.1 - q209.1 / 5 * 5)), some (.int ((q209.1 >>> ((3 : Int32) &&& 31)) - (q209.1 >>> ((3 : Int32) &&& 31)) / 5 * 5)), some (.int (1 + ((q209.1 >>> ((6 : Int32) &&& 31)) - (q209.1 >>> ((6 : Int32) &&& 31)) / 9 * 9))), none, none, none, none, none, none, none, none, none, none, none]) (st' := [.int (1 + ((q209.1 >>> ((6 : Int32) &&& 31)) - (q209.1 >>> ((6 : Int32) &&& 31)) / 9 * 9)), .int ((q209.1 >>> ((3 : Int32) &&& 31)) - (q209.1 >>> ((3 : Int32) &&& 31)) / 5 * 5), .int (q209.1 - q209.1 / 5 * 5), .ref 2]) (w' := q209.2) (g := [!(9 == 0), !(5 == 0), !(5 == 0)]) (K := []) (by decide +kernel) rfl rfl rfl hg210 jk0 ?_
      obtain ⟨q211, hq211, h⟩ := jbe h
      refine ev_callV (ci := 9) (a := 2) (y2 := y_Count_road) (o := 10) (idx := 21) (d2 := d_Count_road) (n := 3) (mc2 := 0) (ms2 := 0) (As := [.int (q209.1 - q209.1 / 5 * 5), .int ((q209.1 >>> ((3 : Int32) &&& 31)) - (q209.1 >>> ((3 : Int32) &&& 31)) / 5 * 5), .int (1 + ((q209.1 >>> ((6 : Int32) &&& 31)) - (q209.1 >>> ((6 : Int32) &&& 31)) / 9 * 9))]) (st := []) (res2 := (some (.int q211.1), (jRx 96), q211.2)) (by decide +kernel) rfl lk_10_21 mo_Count_road mv_Count_road ⟨Nat.le_of_ble_eq_true rfl, Nat.le_of_ble_eq_true rfl⟩ rfl rfl (kz_2 (Nat.le_of_ble_eq_true rfl)) (by decide) rfl (Nat.le_of_ble_eq_true rfl) ⟨Nat.le_of_ble_eq_true rfl, Nat.le_of_ble_eq_true rfl⟩ hG (e_Count_road hG (Nat.le_of_ble_eq_true rfl) hq211) ?_
      refine ev_seg (o := 10) (nL := 22) (q := 210) (xs := [(.iload 8, 2, 8, 0, .null), (.iload 9, 2, 9, 0, .null)]) (L' := [some (.ref 0), some (.ref 2), some (.ref 93), some (.ref 94), some (.ref 95), some (.int x5), some (.int x6), some (.int q209.1), some (.int (q209.1 - q209.1 / 5 * 5)), some (.int ((q209.1 >>> ((3 : Int32) &&& 31)) - (q209.1 >>> ((3 : Int32) &&& 31)) / 5 * 5)), some (.int (1 + ((q209.1 >>> ((6 : Int32) &&& 31)) - (q209.1 >>> ((6 : Int32) &&& 31)) / 9 * 9))), none, none, none, none, none, none, none, none, none, none, none]) (st' := [.int ((q209.1 >>> ((3 : Int32) &&& 31)) - (q209.1 >>> ((3 : Int32) &&& 31)) / 5 * 5), .int (q209.1 - q209.1 / 5 * 5), .int q211.1]) (w' := q211.2) (g := []) (K := []) (by decide +kernel) rfl rfl rfl rfl jk0 ?_
      refine ev_icmp_ne (off := 7) (tgt := 217) (by decide +kernel) (by decide) (fun c219 => ?_) (fun c219 => ?_)
      · replace h := jneg c219 h
        refine ev_seg (o := 10) (nL := 22) (q := 219) (xs := [(.iload 5, 2, 5, 0, .null)]) (L' := [some (.ref 0), some (.ref 2), some (.ref 93), some (.ref 94), some (.ref 95), some (.int x5), some (.int x6), some (.int q209.1), some (.int (q209.1 - q209.1 / 5 * 5)), some (.int ((q209.1 >>> ((3 : Int32) &&& 31)) - (q209.1 >>> ((3 : Int32) &&& 31)) / 5 * 5)), some (.int (1 + ((q209.1 >>> ((6 : Int32) &&& 31)) - (q209.1 >>> ((6 : Int32) &&& 31)) / 9 * 9))), none, none, none, none, none, none, none, none, none, none, none]) (st' := [.int x5, .int q211.1]) (w' := q211.2) (g := []) (K := []) (by decide +kernel) rfl rfl rfl rfl jk0 ?_
        refine ev_mask [true, true, true, true, true, true, true, false, true, true, true, false, false, false, false, false, false, false, false, false, false, false] ?_
        exact t_Law_law_j219 hG hxs hLs ih h
      · replace h := jpos c219 h
        refine ev_seg (o := 10) (nL := 22) (q := 219) (xs := [(.iconst (-1), 1, 0, 0, .int (-1)), (.goto 5, 3, 0, 0, .null)]) (L' := [some (.ref 0), some (.ref 2), some (.ref 93), some (.ref 94), some (.ref 95), some (.int x5), some (.int x6), some (.int q209.1), some (.int (q209.1 - q209.1 / 5 * 5)), some (.int ((q209.1 >>> ((3 : Int32) &&& 31)) - (q209.1 >>> ((3 : Int32) &&& 31)) / 5 * 5)), some (.int (1 + ((q209.1 >>> ((6 : Int32) &&& 31)) - (q209.1 >>> ((6 : Int32) &&& 31)) / 9 * 9))), none, none, none, none, none, none, none, none, none, none, none]) (st' := [.int (-1), .int q211.1]) (w' := q211.2) (g := []) (K := []) (by decide +kernel) rfl rfl rfl rfl jk0 ?_
        refine ev_mask [true, true, true, true, true, true, true, false, true, true, true, false, false, false, false, false, false, false, false, false, false, false] ?_
        exact t_Law_law_j219 hG hxs hLs ih h
def f_Law_law_h114 (xs : Nat → Int32) (Ls : Nat) : Nat → Int32 → jW → Option (Int32 × jW)
  | 0, _, _ => none
  | n + 1, x5, w =>
  if x5 < 25 then
    if jal [!(6 == 0)] = true then
    if (x5 - x5 / 6 * 6) = 0 then
      if jal [jin x5 25] = true then
      jlw ((jup w.1 95 (Int32.toNatClampNeg x5) 0), w.2) fun w225 =>
      (f_Law_law_h114 xs Ls n) (x5 + 1) w225
      else none
    else
      if jal [jin x5 25] = true then
      jlw ((jup w.1 95 (Int32.toNatClampNeg x5) 999), w.2) fun w223 =>
      (f_Law_law_h114 xs Ls n) (x5 + 1) w223
      else none
    else none
  else
    f_Law_law_h153 xs Ls jfu 0 0 w
set_option maxRecDepth 20000 in
set_option maxHeartbeats 40000000 in
theorem t_Law_law_h114 {l : Launch} {G : jG} (hG : jX G) {xs : Nat → Int32} {Ls : Nat} (hxs : True) (hLs : jscr G Ls xs) : ∀ (n : Nat) (x5 : Int32) (w : jW) (z : (Int32 × jW)), f_Law_law_h114 xs Ls n x5 w = some z → Ev l G room_1 y_Law_law (some (.int z.1), (jRx 105), z.2) 600000 7302250 94 22197 114 [some (.ref 0), some (.ref 2), some (.ref 93), some (.ref 94), some (.ref 95), some (.int x5), none, none, none, none, none, none, none, none, none, none, none, none, none, none, none, none] [] (jRx 96) w := by
  intro n
  induction n with
  | zero => intro x5 w z h; simp only [f_Law_law_h114] at h; cases h
  | succ n ih =>
    intro x5 w z h
    rw [f_Law_law_h114] at h
    refine ev_seg (o := 10) (nL := 22) (q := 118) (xs := [(.iload 5, 2, 5, 0, .null), (.bipush 25, 2, 0, 0, .int 25)]) (L' := [some (.ref 0), some (.ref 2), some (.ref 93), some (.ref 94), some (.ref 95), some (.int x5), none, none, none, none, none, none, none, none, none, none, none, none, none, none, none, none]) (st' := [.int 25, .int x5]) (w' := w) (g := []) (K := []) (by decide +kernel) rfl rfl rfl rfl jk0 ?_
    refine ev_icmp_ge (off := 29) (tgt := 147) (by decide +kernel) (by decide) (fun c227 => ?_) (fun c227 => ?_)
    · replace h := jneg c227 h
      refine ev_seg (o := 10) (nL := 22) (q := 153) (xs := [(.iconst 0, 1, 0, 0, .int 0), (.istore 5, 2, 5, 0, .null), (.iconst 0, 1, 0, 0, .int 0), (.istore 6, 2, 6, 0, .null)]) (L' := [some (.ref 0), some (.ref 2), some (.ref 93), some (.ref 94), some (.ref 95), some (.int 0), some (.int 0), none, none, none, none, none, none, none, none, none, none, none, none, none, none, none]) (st' := []) (w' := w) (g := []) (K := []) (by decide +kernel) rfl rfl rfl rfl jk0 ?_
      refine ev_mask [true, true, true, true, true, true, true, false, false, false, false, false, false, false, false, false, false, false, false, false, false, false] ?_
      exact t_Law_law_h153 hG hxs hLs jfu _ _ _ _ h
    · replace h := jpos c227 h
      obtain ⟨hg221, h⟩ := jgd h
      refine ev_seg (o := 10) (nL := 22) (q := 130) (xs := [(.aload 4, 2, 4, 0, .null), (.iload 5, 2, 5, 0, .null), (.iload 5, 2, 5, 0, .null), (.bipush 6, 2, 0, 0, .int 6), (.irem, 1, 0, 0, .null)]) (L' := [some (.ref 0), some (.ref 2), some (.ref 93), some (.ref 94), some (.ref 95), some (.int x5), none, none, none, none, none, none, none, none, none, none, none, none, none, none, none, none]) (st' := [.int (x5 - x5 / 6 * 6), .int x5, .ref 95]) (w' := w) (g := [!(6 == 0)]) (K := []) (by decide +kernel) rfl rfl rfl hg221 jk0 ?_
      refine ev_if_ne (off := 7) (tgt := 137) (by decide +kernel) (by decide) (fun c226 => ?_) (fun c226 => ?_)
      · replace h := jneg c226 h
        obtain ⟨hg222, h⟩ := jgd h
        refine ev_seg (o := 10) (nL := 22) (q := 141) (xs := [(.sipush 999, 3, 0, 0, .int 999), (.iastore, 1, 0, 0, .null)]) (L' := [some (.ref 0), some (.ref 2), some (.ref 93), some (.ref 94), some (.ref 95), some (.int x5), none, none, none, none, none, none, none, none, none, none, none, none, none, none, none, none]) (st' := []) (w' := ((jup w.1 95 (Int32.toNatClampNeg x5) 999), w.2)) (g := [jin x5 25]) (K := [(95, 20)]) (by decide +kernel) rfl rfl rfl hg222 (jk1 (rfl) jk0) ?_
        refine jlw_c (P := fun w223 => Ev l G room_1 y_Law_law (some (.int z.1), (jRx 105), z.2) 600000 7302250 94 22197 141 [some (.ref 0), some (.ref 2), some (.ref 93), some (.ref 94), some (.ref 95), some (.int x5), none, none, none, none, none, none, none, none, none, none, none, none, none, none, none, none] [] (jRx 96) w223) h fun w223 h => ?_
        refine ev_seg (o := 10) (nL := 22) (q := 114) (xs := [(.iinc 5 1, 3, 5, 0, .int 1), (.goto (-30), 3, 0, 0, .null)]) (L' := [some (.ref 0), some (.ref 2), some (.ref 93), some (.ref 94), some (.ref 95), some (.int (x5 + 1)), none, none, none, none, none, none, none, none, none, none, none, none, none, none, none, none]) (st' := []) (w' := w223) (g := []) (K := []) (by decide +kernel) rfl rfl rfl rfl jk0 ?_
        refine ev_mask [true, true, true, true, true, true, false, false, false, false, false, false, false, false, false, false, false, false, false, false, false, false] ?_
        exact ih _ _ _ h
      · replace h := jpos c226 h
        obtain ⟨hg224, h⟩ := jgd h
        refine ev_seg (o := 10) (nL := 22) (q := 141) (xs := [(.iconst 0, 1, 0, 0, .int 0), (.goto 6, 3, 0, 0, .null), (.iastore, 1, 0, 0, .null)]) (L' := [some (.ref 0), some (.ref 2), some (.ref 93), some (.ref 94), some (.ref 95), some (.int x5), none, none, none, none, none, none, none, none, none, none, none, none, none, none, none, none]) (st' := []) (w' := ((jup w.1 95 (Int32.toNatClampNeg x5) 0), w.2)) (g := [jin x5 25]) (K := [(95, 20)]) (by decide +kernel) rfl rfl rfl hg224 (jk1 (rfl) jk0) ?_
        refine jlw_c (P := fun w225 => Ev l G room_1 y_Law_law (some (.int z.1), (jRx 105), z.2) 600000 7302250 94 22197 141 [some (.ref 0), some (.ref 2), some (.ref 93), some (.ref 94), some (.ref 95), some (.int x5), none, none, none, none, none, none, none, none, none, none, none, none, none, none, none, none] [] (jRx 96) w225) h fun w225 h => ?_
        refine ev_seg (o := 10) (nL := 22) (q := 114) (xs := [(.iinc 5 1, 3, 5, 0, .int 1), (.goto (-30), 3, 0, 0, .null)]) (L' := [some (.ref 0), some (.ref 2), some (.ref 93), some (.ref 94), some (.ref 95), some (.int (x5 + 1)), none, none, none, none, none, none, none, none, none, none, none, none, none, none, none, none]) (st' := []) (w' := w225) (g := []) (K := []) (by decide +kernel) rfl rfl rfl rfl jk0 ?_
        refine ev_mask [true, true, true, true, true, true, false, false, false, false, false, false, false, false, false, false, false, false, false, false, false, false] ?_
        exact ih _ _ _ h
def f_Law_law_j89 (xs : Nat → Int32) (Ls : Nat) (k19 : Int32 → jW → Option (Int32 × jW)) (x4 : Int32) (s0 : Int32) (s1 : Int32) (s2 : Int32) (s3 : Int32) (w : jW) : Option (Int32 × jW) :=
  Option.bind (f_Count_site s3 s2 s1 s0 w) fun q236 =>
  if q236.1 = x4 then
    k19 (x4 + 1) q236.2
  else
    none
set_option maxRecDepth 20000 in
set_option maxHeartbeats 40000000 in
theorem t_Law_law_j89 {l : Launch} {G : jG} (hG : jX G) {xs : Nat → Int32} {Ls : Nat} (hxs : True) (hLs : jscr G Ls xs) {k19 : Int32 → jW → Option (Int32 × jW)} (hk19 : ∀ (x4 : Int32) (w : jW) (z : (Int32 × jW)), k19 x4 w = some z → Ev l G room_1 y_Law_law (some (.int z.1), (jRx 105), z.2) 600000 7302250 93 22172 19 [some (.ref 0), some (.ref 2), some (.ref 93), some (.ref 94), some (.int x4), none, none, none, none, none, none, none, none, none, none, none, none, none, none, none, none, none] [] (jRx 95) w) {x4 : Int32} {s0 : Int32} {s1 : Int32} {s2 : Int32} {s3 : Int32} {w : jW} {z : (Int32 × jW)} (h : f_Law_law_j89 xs Ls k19 x4 s0 s1 s2 s3 w = some z) : Ev l G room_1 y_Law_law (some (.int z.1), (jRx 105), z.2) 600000 7302250 93 22172 89 [some (.ref 0), some (.ref 2), some (.ref 93), some (.ref 94), some (.int x4), none, none, none, none, none, none, none, none, none, none, none, none, none, none, none, none, none] [.int s0, .int s1, .int s2, .int s3, .ref 2] (jRx 95) w := by
  rw [f_Law_law_j89] at h
  obtain ⟨q236, hq236, h⟩ := jbe h
  refine ev_callV (ci := 9) (a := 2) (y2 := y_Count_site) (o := 10) (idx := 17) (d2 := d_Count_site) (n := 4) (mc2 := 0) (ms2 := 0) (As := [.int s3, .int s2, .int s1, .int s0]) (st := []) (res2 := (some (.int q236.1), (jRx 95), q236.2)) (by decide +kernel) rfl lk_10_17 mo_Count_site mv_Count_site ⟨Nat.le_of_ble_eq_true rfl, Nat.le_of_ble_eq_true rfl⟩ rfl rfl (kz_2 (Nat.le_of_ble_eq_true rfl)) (by decide) rfl (Nat.le_of_ble_eq_true rfl) ⟨Nat.le_of_ble_eq_true rfl, Nat.le_of_ble_eq_true rfl⟩ hG (e_Count_site hG (Nat.le_of_ble_eq_true rfl) hq236) ?_
  refine ev_seg (o := 10) (nL := 22) (q := 94) (xs := [(.iload 4, 2, 4, 0, .null)]) (L' := [some (.ref 0), some (.ref 2), some (.ref 93), some (.ref 94), some (.int x4), none, none, none, none, none, none, none, none, none, none, none, none, none, none, none, none, none]) (st' := [.int x4, .int q236.1]) (w' := q236.2) (g := []) (K := []) (by decide +kernel) rfl rfl rfl rfl jk0 ?_
  refine ev_icmp_eq (off := 5) (tgt := 99) (by decide +kernel) (by decide) (fun c237 => ?_) (fun c237 => ?_)
  · replace h := jpos c237 h
    refine ev_seg (o := 10) (nL := 22) (q := 19) (xs := [(.iinc 4 1, 3, 4, 0, .int 1), (.goto (-83), 3, 0, 0, .null)]) (L' := [some (.ref 0), some (.ref 2), some (.ref 93), some (.ref 94), some (.int (x4 + 1)), none, none, none, none, none, none, none, none, none, none, none, none, none, none, none, none, none]) (st' := []) (w' := q236.2) (g := []) (K := []) (by decide +kernel) rfl rfl rfl rfl jk0 ?_
    refine ev_mask [true, true, true, true, true, false, false, false, false, false, false, false, false, false, false, false, false, false, false, false, false, false] ?_
    exact hk19 _ _ _ h
  · replace h := jneg c237 h
    cases h
def f_Law_law_j45 (xs : Nat → Int32) (Ls : Nat) (k19 : Int32 → jW → Option (Int32 × jW)) (x4 : Int32) (s0 : Int32) (s1 : Int32) (w : jW) : Option (Int32 × jW) :=
  if jal [jbo s0, jin s1 5] = true then
  jlw ((jup w.1 93 (Int32.toNatClampNeg s1) s0), w.2) fun w230 =>
  Option.bind (f_Law_pick xs Ls x4 w230) fun q231 =>
  if jal [jin x4 5] = true then
  jlw ((jup q231.2.1 94 (Int32.toNatClampNeg x4) ((q231.1 >>> ((1 : Int32) &&& 31)) &&& 3)), q231.2.2) fun w233 =>
  if jal [jin x4 5, jin x4 5] = true then
  Option.bind (f_Law_pick xs Ls x4 w233) fun q235 =>
  if ((q235.1 >>> ((3 : Int32) &&& 31)) &&& 1) = 1 then
    f_Law_law_j89 xs Ls k19 x4 1 (w233.1 93 (Int32.toNatClampNeg x4)) (w233.1 94 (Int32.toNatClampNeg x4)) 0 q235.2
  else
    f_Law_law_j89 xs Ls k19 x4 0 (w233.1 93 (Int32.toNatClampNeg x4)) (w233.1 94 (Int32.toNatClampNeg x4)) 0 q235.2
  else none else none
  else none
set_option maxRecDepth 20000 in
set_option maxHeartbeats 40000000 in
theorem t_Law_law_j45 {l : Launch} {G : jG} (hG : jX G) {xs : Nat → Int32} {Ls : Nat} (hxs : True) (hLs : jscr G Ls xs) {k19 : Int32 → jW → Option (Int32 × jW)} (hk19 : ∀ (x4 : Int32) (w : jW) (z : (Int32 × jW)), k19 x4 w = some z → Ev l G room_1 y_Law_law (some (.int z.1), (jRx 105), z.2) 600000 7302250 93 22172 19 [some (.ref 0), some (.ref 2), some (.ref 93), some (.ref 94), some (.int x4), none, none, none, none, none, none, none, none, none, none, none, none, none, none, none, none, none] [] (jRx 95) w) {x4 : Int32} {s0 : Int32} {s1 : Int32} {w : jW} {z : (Int32 × jW)} (h : f_Law_law_j45 xs Ls k19 x4 s0 s1 w = some z) : Ev l G room_1 y_Law_law (some (.int z.1), (jRx 105), z.2) 600000 7302250 93 22172 45 [some (.ref 0), some (.ref 2), some (.ref 93), some (.ref 94), some (.int x4), none, none, none, none, none, none, none, none, none, none, none, none, none, none, none, none, none] [.int s0, .int s1, .ref 93] (jRx 95) w := by
  rw [f_Law_law_j45] at h
  obtain ⟨hg229, h⟩ := jgd h
  refine ev_seg (o := 10) (nL := 22) (q := 46) (xs := [(.bastore, 1, 0, 0, .null)]) (L' := [some (.ref 0), some (.ref 2), some (.ref 93), some (.ref 94), some (.int x4), none, none, none, none, none, none, none, none, none, none, none, none, none, none, none, none, none]) (st' := []) (w' := ((jup w.1 93 (Int32.toNatClampNeg s1) s0), w.2)) (g := [jbo s0, jin s1 5]) (K := [(93, 21)]) (by decide +kernel) rfl rfl rfl hg229 (jk1 (rfl) jk0) ?_
  refine jlw_c (P := fun w230 => Ev l G room_1 y_Law_law (some (.int z.1), (jRx 105), z.2) 600000 7302250 93 22172 46 [some (.ref 0), some (.ref 2), some (.ref 93), some (.ref 94), some (.int x4), none, none, none, none, none, none, none, none, none, none, none, none, none, none, none, none, none] [] (jRx 95) w230) h fun w230 h => ?_
  refine ev_seg (o := 10) (nL := 22) (q := 52) (xs := [(.aload_n 3, 1, 3, 0, .null), (.iload 4, 2, 4, 0, .null), (.aload_n 0, 1, 0, 0, .null), (.iload 4, 2, 4, 0, .null)]) (L' := [some (.ref 0), some (.ref 2), some (.ref 93), some (.ref 94), some (.int x4), none, none, none, none, none, none, none, none, none, none, none, none, none, none, none, none, none]) (st' := [.int x4, .ref 0, .int x4, .ref 94]) (w' := w230) (g := []) (K := []) (by decide +kernel) rfl rfl rfl rfl jk0 ?_
  obtain ⟨q231, hq231, h⟩ := jbe h
  refine ev_callS (y2 := y_Law_pick) (o := 10) (idx := 11) (d2 := d_Law_pick) (n := 2) (mc2 := 0) (ms2 := 0) (As := [.ref 0, .int x4]) (st := [.int x4, .ref 94]) (res2 := (some (.int q231.1), (jRx 95), q231.2)) (by decide +kernel) rfl lk_10_11 mo_Law_pick ms_Law_pick ⟨Nat.le_of_ble_eq_true rfl, Nat.le_of_ble_eq_true rfl⟩ rfl rfl (Nat.le_of_ble_eq_true rfl) ⟨Nat.le_of_ble_eq_true rfl, Nat.le_of_ble_eq_true rfl⟩ hG (e_Law_pick hG (Nat.le_of_ble_eq_true rfl) hxs hLs hq231) ?_
  obtain ⟨hg232, h⟩ := jgd h
  refine ev_seg (o := 10) (nL := 22) (q := 60) (xs := [(.iconst 1, 1, 0, 0, .int 1), (.ishr, 1, 0, 0, .null), (.iconst 3, 1, 0, 0, .int 3), (.iand, 1, 0, 0, .null), (.iastore, 1, 0, 0, .null)]) (L' := [some (.ref 0), some (.ref 2), some (.ref 93), some (.ref 94), some (.int x4), none, none, none, none, none, none, none, none, none, none, none, none, none, none, none, none, none]) (st' := []) (w' := ((jup q231.2.1 94 (Int32.toNatClampNeg x4) ((q231.1 >>> ((1 : Int32) &&& 31)) &&& 3)), q231.2.2)) (g := [jin x4 5]) (K := [(94, 20)]) (by decide +kernel) rfl rfl rfl hg232 (jk1 (rfl) jk0) ?_
  refine jlw_c (P := fun w233 => Ev l G room_1 y_Law_law (some (.int z.1), (jRx 105), z.2) 600000 7302250 93 22172 60 [some (.ref 0), some (.ref 2), some (.ref 93), some (.ref 94), some (.int x4), none, none, none, none, none, none, none, none, none, none, none, none, none, none, none, none, none] [] (jRx 95) w233) h fun w233 h => ?_
  obtain ⟨hg234, h⟩ := jgd h
  refine ev_seg (o := 10) (nL := 22) (q := 73) (xs := [(.aload_n 1, 1, 1, 0, .null), (.iconst 0, 1, 0, 0, .int 0), (.aload_n 3, 1, 3, 0, .null), (.iload 4, 2, 4, 0, .null), (.iaload, 1, 0, 0, .null), (.aload_n 2, 1, 2, 0, .null), (.iload 4, 2, 4, 0, .null), (.baload, 1, 0, 0, .null), (.aload_n 0, 1, 0, 0, .null), (.iload 4, 2, 4, 0, .null)]) (L' := [some (.ref 0), some (.ref 2), some (.ref 93), some (.ref 94), some (.int x4), none, none, none, none, none, none, none, none, none, none, none, none, none, none, none, none, none]) (st' := [.int x4, .ref 0, .int (w233.1 93 (Int32.toNatClampNeg x4)), .int (w233.1 94 (Int32.toNatClampNeg x4)), .int 0, .ref 2]) (w' := w233) (g := [jin x4 5, jin x4 5]) (K := [(93, 21), (94, 20)]) (by decide +kernel) rfl rfl rfl hg234 (jk1 (rfl) (jk1 (rfl) jk0)) ?_
  obtain ⟨q235, hq235, h⟩ := jbe h
  refine ev_callS (y2 := y_Law_pick) (o := 10) (idx := 11) (d2 := d_Law_pick) (n := 2) (mc2 := 0) (ms2 := 0) (As := [.ref 0, .int x4]) (st := [.int (w233.1 93 (Int32.toNatClampNeg x4)), .int (w233.1 94 (Int32.toNatClampNeg x4)), .int 0, .ref 2]) (res2 := (some (.int q235.1), (jRx 95), q235.2)) (by decide +kernel) rfl lk_10_11 mo_Law_pick ms_Law_pick ⟨Nat.le_of_ble_eq_true rfl, Nat.le_of_ble_eq_true rfl⟩ rfl rfl (Nat.le_of_ble_eq_true rfl) ⟨Nat.le_of_ble_eq_true rfl, Nat.le_of_ble_eq_true rfl⟩ hG (e_Law_pick hG (Nat.le_of_ble_eq_true rfl) hxs hLs hq235) ?_
  refine ev_seg (o := 10) (nL := 22) (q := 81) (xs := [(.iconst 3, 1, 0, 0, .int 3), (.ishr, 1, 0, 0, .null), (.iconst 1, 1, 0, 0, .int 1), (.iand, 1, 0, 0, .null), (.iconst 1, 1, 0, 0, .int 1)]) (L' := [some (.ref 0), some (.ref 2), some (.ref 93), some (.ref 94), some (.int x4), none, none, none, none, none, none, none, none, none, none, none, none, none, none, none, none, none]) (st' := [.int 1, .int ((q235.1 >>> ((3 : Int32) &&& 31)) &&& 1), .int (w233.1 93 (Int32.toNatClampNeg x4)), .int (w233.1 94 (Int32.toNatClampNeg x4)), .int 0, .ref 2]) (w' := q235.2) (g := []) (K := []) (by decide +kernel) rfl rfl rfl rfl jk0 ?_
  refine ev_icmp_ne (off := 7) (tgt := 88) (by decide +kernel) (by decide) (fun c238 => ?_) (fun c238 => ?_)
  · replace h := jneg c238 h
    refine ev_seg (o := 10) (nL := 22) (q := 89) (xs := [(.iconst 0, 1, 0, 0, .int 0)]) (L' := [some (.ref 0), some (.ref 2), some (.ref 93), some (.ref 94), some (.int x4), none, none, none, none, none, none, none, none, none, none, none, none, none, none, none, none, none]) (st' := [.int 0, .int (w233.1 93 (Int32.toNatClampNeg x4)), .int (w233.1 94 (Int32.toNatClampNeg x4)), .int 0, .ref 2]) (w' := q235.2) (g := []) (K := []) (by decide +kernel) rfl rfl rfl rfl jk0 ?_
    refine ev_mask [true, true, true, true, true, false, false, false, false, false, false, false, false, false, false, false, false, false, false, false, false, false] ?_
    exact t_Law_law_j89 hG hxs hLs hk19 h
  · replace h := jpos c238 h
    refine ev_seg (o := 10) (nL := 22) (q := 89) (xs := [(.iconst 1, 1, 0, 0, .int 1), (.goto 4, 3, 0, 0, .null)]) (L' := [some (.ref 0), some (.ref 2), some (.ref 93), some (.ref 94), some (.int x4), none, none, none, none, none, none, none, none, none, none, none, none, none, none, none, none, none]) (st' := [.int 1, .int (w233.1 93 (Int32.toNatClampNeg x4)), .int (w233.1 94 (Int32.toNatClampNeg x4)), .int 0, .ref 2]) (w' := q235.2) (g := []) (K := []) (by decide +kernel) rfl rfl rfl rfl jk0 ?_
    refine ev_mask [true, true, true, true, true, false, false, false, false, false, false, false, false, false, false, false, false, false, false, false, false, false] ?_
    exact t_Law_law_j89 hG hxs hLs hk19 h
def f_Law_law_h19 (xs : Nat → Int32) (Ls : Nat) : Nat → Int32 → jW → Option (Int32 × jW)
  | 0, _, _ => none
  | n + 1, x4, w =>
  if x4 < 5 then
    Option.bind (f_Law_pick xs Ls x4 w) fun q228 =>
    if (q228.1 &&& 1) = 1 then
      f_Law_law_j45 xs Ls (f_Law_law_h19 xs Ls n) x4 1 x4 q228.2
    else
      f_Law_law_j45 xs Ls (f_Law_law_h19 xs Ls n) x4 0 x4 q228.2
  else
    jlw (jzr w 95) fun w3 =>
    f_Law_law_h114 xs Ls jfu 0 w3
set_option maxRecDepth 20000 in
set_option maxHeartbeats 40000000 in
theorem t_Law_law_h19 {l : Launch} {G : jG} (hG : jX G) {xs : Nat → Int32} {Ls : Nat} (hxs : True) (hLs : jscr G Ls xs) : ∀ (n : Nat) (x4 : Int32) (w : jW) (z : (Int32 × jW)), f_Law_law_h19 xs Ls n x4 w = some z → Ev l G room_1 y_Law_law (some (.int z.1), (jRx 105), z.2) 600000 7302250 93 22172 19 [some (.ref 0), some (.ref 2), some (.ref 93), some (.ref 94), some (.int x4), none, none, none, none, none, none, none, none, none, none, none, none, none, none, none, none, none] [] (jRx 95) w := by
  intro n
  induction n with
  | zero => intro x4 w z h; simp only [f_Law_law_h19] at h; cases h
  | succ n ih =>
    intro x4 w z h
    rw [f_Law_law_h19] at h
    refine ev_seg (o := 10) (nL := 22) (q := 22) (xs := [(.iload 4, 2, 4, 0, .null), (.iconst 5, 1, 0, 0, .int 5)]) (L' := [some (.ref 0), some (.ref 2), some (.ref 93), some (.ref 94), some (.int x4), none, none, none, none, none, none, none, none, none, none, none, none, none, none, none, none, none]) (st' := [.int 5, .int x4]) (w' := w) (g := []) (K := []) (by decide +kernel) rfl rfl rfl rfl jk0 ?_
    refine ev_icmp_ge (off := 83) (tgt := 105) (by decide +kernel) (by decide) (fun c240 => ?_) (fun c240 => ?_)
    · replace h := jneg c240 h
      refine ev_seg (o := 10) (nL := 22) (q := 107) (xs := [(.bipush 25, 2, 0, 0, .int 25)]) (L' := [some (.ref 0), some (.ref 2), some (.ref 93), some (.ref 94), some (.int x4), none, none, none, none, none, none, none, none, none, none, none, none, none, none, none, none, none]) (st' := [.int 25]) (w' := w) (g := []) (K := []) (by decide +kernel) rfl rfl rfl rfl jk0 ?_
      refine ev_newx (kk := 95) (kd := 20) (ty := .int) (atype := .int) (N := 25) (by decide +kernel) rfl (by decide +kernel) (Or.inl ⟨rfl, rfl⟩) ja_int (by decide +kernel) (by decide +kernel) (Nat.le_of_ble_eq_true rfl) (Nat.le_of_ble_eq_true rfl) (Nat.le_of_ble_eq_true rfl) ?_
      refine jlw_c (P := fun w3 => Ev l G room_1 y_Law_law (some (.int z.1), (jRx 105), z.2) 600000 7302250 94 22197 109 [some (.ref 0), some (.ref 2), some (.ref 93), some (.ref 94), some (.int x4), none, none, none, none, none, none, none, none, none, none, none, none, none, none, none, none, none] [.ref 95] (jRx 96) w3) h fun w3 h => ?_
      refine ev_seg (o := 10) (nL := 22) (q := 114) (xs := [(.astore 4, 2, 4, 0, .null), (.iconst 0, 1, 0, 0, .int 0), (.istore 5, 2, 5, 0, .null)]) (L' := [some (.ref 0), some (.ref 2), some (.ref 93), some (.ref 94), some (.ref 95), some (.int 0), none, none, none, none, none, none, none, none, none, none, none, none, none, none, none, none]) (st' := []) (w' := w3) (g := []) (K := []) (by decide +kernel) rfl rfl rfl rfl jk0 ?_
      refine ev_mask [true, true, true, true, true, true, false, false, false, false, false, false, false, false, false, false, false, false, false, false, false, false] ?_
      exact t_Law_law_h114 hG hxs hLs jfu _ _ _ h
    · replace h := jpos c240 h
      refine ev_seg (o := 10) (nL := 22) (q := 31) (xs := [(.aload_n 2, 1, 2, 0, .null), (.iload 4, 2, 4, 0, .null), (.aload_n 0, 1, 0, 0, .null), (.iload 4, 2, 4, 0, .null)]) (L' := [some (.ref 0), some (.ref 2), some (.ref 93), some (.ref 94), some (.int x4), none, none, none, none, none, none, none, none, none, none, none, none, none, none, none, none, none]) (st' := [.int x4, .ref 0, .int x4, .ref 93]) (w' := w) (g := []) (K := []) (by decide +kernel) rfl rfl rfl rfl jk0 ?_
      obtain ⟨q228, hq228, h⟩ := jbe h
      refine ev_callS (y2 := y_Law_pick) (o := 10) (idx := 11) (d2 := d_Law_pick) (n := 2) (mc2 := 0) (ms2 := 0) (As := [.ref 0, .int x4]) (st := [.int x4, .ref 93]) (res2 := (some (.int q228.1), (jRx 95), q228.2)) (by decide +kernel) rfl lk_10_11 mo_Law_pick ms_Law_pick ⟨Nat.le_of_ble_eq_true rfl, Nat.le_of_ble_eq_true rfl⟩ rfl rfl (Nat.le_of_ble_eq_true rfl) ⟨Nat.le_of_ble_eq_true rfl, Nat.le_of_ble_eq_true rfl⟩ hG (e_Law_pick hG (Nat.le_of_ble_eq_true rfl) hxs hLs hq228) ?_
      refine ev_seg (o := 10) (nL := 22) (q := 37) (xs := [(.iconst 1, 1, 0, 0, .int 1), (.iand, 1, 0, 0, .null), (.iconst 1, 1, 0, 0, .int 1)]) (L' := [some (.ref 0), some (.ref 2), some (.ref 93), some (.ref 94), some (.int x4), none, none, none, none, none, none, none, none, none, none, none, none, none, none, none, none, none]) (st' := [.int 1, .int (q228.1 &&& 1), .int x4, .ref 93]) (w' := q228.2) (g := []) (K := []) (by decide +kernel) rfl rfl rfl rfl jk0 ?_
      refine ev_icmp_ne (off := 7) (tgt := 44) (by decide +kernel) (by decide) (fun c239 => ?_) (fun c239 => ?_)
      · replace h := jneg c239 h
        refine ev_seg (o := 10) (nL := 22) (q := 45) (xs := [(.iconst 0, 1, 0, 0, .int 0)]) (L' := [some (.ref 0), some (.ref 2), some (.ref 93), some (.ref 94), some (.int x4), none, none, none, none, none, none, none, none, none, none, none, none, none, none, none, none, none]) (st' := [.int 0, .int x4, .ref 93]) (w' := q228.2) (g := []) (K := []) (by decide +kernel) rfl rfl rfl rfl jk0 ?_
        refine ev_mask [true, true, true, true, true, false, false, false, false, false, false, false, false, false, false, false, false, false, false, false, false, false] ?_
        exact t_Law_law_j45 hG hxs hLs ih h
      · replace h := jpos c239 h
        refine ev_seg (o := 10) (nL := 22) (q := 45) (xs := [(.iconst 1, 1, 0, 0, .int 1), (.goto 4, 3, 0, 0, .null)]) (L' := [some (.ref 0), some (.ref 2), some (.ref 93), some (.ref 94), some (.int x4), none, none, none, none, none, none, none, none, none, none, none, none, none, none, none, none, none]) (st' := [.int 1, .int x4, .ref 93]) (w' := q228.2) (g := []) (K := []) (by decide +kernel) rfl rfl rfl rfl jk0 ?_
        refine ev_mask [true, true, true, true, true, false, false, false, false, false, false, false, false, false, false, false, false, false, false, false, false, false] ?_
        exact t_Law_law_j45 hG hxs hLs ih h
def f_Law_law (xs : Nat → Int32) (Ls : Nat) (w : jW) : Option (Int32 × jW) :=
  jlw (jzr w 93) fun w1 =>
  jlw (jzr w1 94) fun w2 =>
  f_Law_law_h19 xs Ls jfu 0 w2
set_option maxRecDepth 20000 in
set_option maxHeartbeats 40000000 in
theorem t_Law_law {l : Launch} {G : jG} (hG : jX G) {xs : Nat → Int32} {Ls : Nat} (hxs : True) (hLs : jscr G Ls xs) {w : jW} {z : Int32 × jW} (h : f_Law_law xs Ls w = some z) : Ev l G room_1 y_Law_law (some (.int z.1), (jRx 105), z.2) 600000 7302250 91 22162 8 [some (.ref 0), some (.ref 2), none, none, none, none, none, none, none, none, none, none, none, none, none, none, none, none, none, none, none, none] [] (jRx 93) w := by
  rw [f_Law_law] at h
  refine ev_seg (o := 10) (nL := 22) (q := 9) (xs := [(.iconst 5, 1, 0, 0, .int 5)]) (L' := [some (.ref 0), some (.ref 2), none, none, none, none, none, none, none, none, none, none, none, none, none, none, none, none, none, none, none, none]) (st' := [.int 5]) (w' := w) (g := []) (K := []) (by decide +kernel) rfl rfl rfl rfl jk0 ?_
  refine ev_newx (kk := 93) (kd := 21) (ty := .boolean) (atype := .boolean) (N := 5) (by decide +kernel) rfl (by decide +kernel) (Or.inr (Or.inl ⟨rfl, rfl⟩)) ja_boolean (by decide +kernel) (by decide +kernel) (Nat.le_of_ble_eq_true rfl) (Nat.le_of_ble_eq_true rfl) (Nat.le_of_ble_eq_true rfl) ?_
  refine jlw_c (P := fun w1 => Ev l G room_1 y_Law_law (some (.int z.1), (jRx 105), z.2) 600000 7302250 92 22167 11 [some (.ref 0), some (.ref 2), none, none, none, none, none, none, none, none, none, none, none, none, none, none, none, none, none, none, none, none] [.ref 93] (jRx 94) w1) h fun w1 h => ?_
  refine ev_seg (o := 10) (nL := 22) (q := 13) (xs := [(.astore_n 2, 1, 2, 0, .null), (.iconst 5, 1, 0, 0, .int 5)]) (L' := [some (.ref 0), some (.ref 2), some (.ref 93), none, none, none, none, none, none, none, none, none, none, none, none, none, none, none, none, none, none, none]) (st' := [.int 5]) (w' := w1) (g := []) (K := []) (by decide +kernel) rfl rfl rfl rfl jk0 ?_
  refine ev_newx (kk := 94) (kd := 20) (ty := .int) (atype := .int) (N := 5) (by decide +kernel) rfl (by decide +kernel) (Or.inl ⟨rfl, rfl⟩) ja_int (by decide +kernel) (by decide +kernel) (Nat.le_of_ble_eq_true rfl) (Nat.le_of_ble_eq_true rfl) (Nat.le_of_ble_eq_true rfl) ?_
  refine jlw_c (P := fun w2 => Ev l G room_1 y_Law_law (some (.int z.1), (jRx 105), z.2) 600000 7302250 93 22172 15 [some (.ref 0), some (.ref 2), some (.ref 93), none, none, none, none, none, none, none, none, none, none, none, none, none, none, none, none, none, none, none] [.ref 94] (jRx 95) w2) h fun w2 h => ?_
  refine ev_seg (o := 10) (nL := 22) (q := 19) (xs := [(.astore_n 3, 1, 3, 0, .null), (.iconst 0, 1, 0, 0, .int 0), (.istore 4, 2, 4, 0, .null)]) (L' := [some (.ref 0), some (.ref 2), some (.ref 93), some (.ref 94), some (.int 0), none, none, none, none, none, none, none, none, none, none, none, none, none, none, none, none, none]) (st' := []) (w' := w2) (g := []) (K := []) (by decide +kernel) rfl rfl rfl rfl jk0 ?_
  refine ev_mask [true, true, true, true, true, false, false, false, false, false, false, false, false, false, false, false, false, false, false, false, false, false] ?_
  exact t_Law_law_h19 hG hxs hLs jfu _ _ _ h

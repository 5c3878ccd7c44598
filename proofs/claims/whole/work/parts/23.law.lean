def jscr (G : jG) (Ls : Nat) (xs : Nat → Int32) : Prop := ∀ s : State, G.2.2.2.2.2 s → va_X (jad G 0) Ls xs s (jH0 G) ∧ jad G 0 < (jH0 G).size
section JLW
variable {l : Launch} {G : jG} {R : Room} {y : jM} {res : Option Value × jS × jW} {mc ms c0 s0 : Nat} {pc : Nat} {L : List (Option Value)} {st : List Value} {r : jS} {w : jW}
theorem ev_sld {Ls : Nat} {xs : Nat → Int32} {i : Int32} (hS : jscr G Ls xs) (hd : decode y.2.1 pc = .ok (.iaload, 1)) (hin : jin i Ls = true) (k : Ev l G R y res mc ms c0 s0 (pc + 1) L (.int (xs (Int32.toNatClampNeg i)) :: st) r w) : Ev l G R y res mc ms c0 s0 pc L (.int i :: .ref 0 :: st) r w := by
  intro p e s m args below meth c H locs ls hx hb hn hr hlk ho hts hnm hK hW hlo hL
  obtain ⟨⟨scr, h1, h2, h3, h4, h5⟩, hlt0⟩ := hS s hK.2
  have hlt : i.toNatClampNeg < Ls := Nat.not_le.mp fun q => jin_not hin (Or.inr q)
  exact W.iald (v := .int (xs i.toNatClampNeg)) hx hb (by rw [hW.2.1 _ hlt0]; exact h1) h2 h3 (by rw [h4]; exact jin_not hin) (h5 _ hlt) rfl rfl hd (k p e s m args below meth c H locs ls hx hb hn hr hlk ho hts hnm hK hW hlo hL)
theorem ev_salen {Ls : Nat} {xs : Nat → Int32} (hS : jscr G Ls xs) (hd : decode y.2.1 pc = .ok (.arraylength, 1)) (k : Ev l G R y res mc ms c0 s0 (pc + 1) L (.int (Int32.ofNat Ls) :: st) r w) : Ev l G R y res mc ms c0 s0 pc L (.ref 0 :: st) r w := by
  intro p e s m args below meth c H locs ls hx hb hn hr hlk ho hts hnm hK hW hlo hL
  obtain ⟨⟨scr, h1, h2, h3, h4, h5⟩, hlt0⟩ := hS s hK.2
  exact W.alen (n := Int32.ofNat Ls) hx hb (by rw [hW.2.1 _ hlt0]; exact h1) h2 (by rw [h4] <;> rfl) rfl rfl hd (k p e s m args below meth c H locs ls hx hb hn hr hlk ho hts hnm hK hW hlo hL)
theorem ev_widen {c1 s1 : Nat} (h1 : c0 ≤ c1) (h2 : s0 ≤ s1) (k : Ev l G R y res mc ms c1 s1 pc L st r w) : Ev l G R y res mc ms c0 s0 pc L st r w := by
  intro p e s m args below meth c H locs ls hx hb hn hr hlk ho hts hnm hK hW hlo hL
  exact W.widen h1 h2 (k p e s m args below meth c H locs ls hx hb hn hr hlk ho hts hnm hK hW hlo hL)
end JLW

def f_Law_law_j305 (xs : Nat → Int32) (Ls : Nat) (k18 : Int32 → jW → Option (Int32 × jW)) (x3 : Int32) (s0 : Int32) (s1 : Int32) (s2 : Int32) (s3 : Int32) (s5 : Int32) (w : jW) : Option (Int32 × jW) :=
  Option.bind (f_Model_site s3 s2 s1 s0 w) fun q12 =>
  if s5 = q12.1 then
    k18 (x3 + 8) q12.2
  else
    some (0, q12.2)
set_option maxRecDepth 20000 in
set_option maxHeartbeats 40000000 in
theorem t_Law_law_j305 {l : Launch} {G : jG} (hG : jX G) {xs : Nat → Int32} {Ls : Nat} (hxs : True) (hLs : jscr G Ls xs) {k18 : Int32 → jW → Option (Int32 × jW)} (hk18 : ∀ (x3 : Int32) (w : jW) (z : (Int32 × jW)), k18 x3 w = some z → Ev l G room_1 y_Law_law (some (.int z.1), jR0, z.2) 600000 7302250 600000 7302250 18 [some (.ref 0), some (.ref 2), some (.ref 93), some (.int x3)] [] jR0 w) {x3 : Int32} {s0 : Int32} {s1 : Int32} {s2 : Int32} {s3 : Int32} {s5 : Int32} {w : jW} {z : (Int32 × jW)} (h : f_Law_law_j305 xs Ls k18 x3 s0 s1 s2 s3 s5 w = some z) : Ev l G room_1 y_Law_law (some (.int z.1), jR0, z.2) 600000 7302250 600000 7302250 305 [some (.ref 0), some (.ref 2), some (.ref 93), some (.int x3)] [.int s0, .int s1, .int s2, .int s3, .ref 93, .int s5] jR0 w := by
  rw [f_Law_law_j305] at h
  obtain ⟨q12, hq12, h⟩ := jbe h
  refine ev_callV (ci := 10) (a := 93) (y2 := y_Model_site) (o := 11) (idx := 17) (d2 := d_Model_site) (n := 4) (mc2 := 0) (ms2 := 0) (As := [.int s3, .int s2, .int s1, .int s0]) (st := [.int s5]) (res2 := (some (.int q12.1), jR0, q12.2)) (by decide +kernel) rfl lk_11_17 mo_Model_site mv_Model_site ⟨Nat.le_of_ble_eq_true rfl, Nat.le_of_ble_eq_true rfl⟩ rfl rfl kz_93 (by decide) rfl (Nat.le_of_ble_eq_true rfl) ⟨Nat.le_of_ble_eq_true rfl, Nat.le_of_ble_eq_true rfl⟩ hG (e_Model_site hG hq12) ?_
  refine ev_icmp_eq (off := 1701) (tgt := 2009) (by decide +kernel) (by decide) (fun c13 => ?_) (fun c13 => ?_)
  · replace h := jpos c13 h
    refine ev_seg (o := 11) (nL := 4) (q := 18) (xs := [(.iinc 3 8, 3, 3, 0, .int 8), (.goto (-1994), 3, 0, 0, .null)]) (L' := [some (.ref 0), some (.ref 2), some (.ref 93), some (.int (x3 + 8))]) (st' := []) (w' := q12.2) (g := []) (K := []) (by decide +kernel) rfl rfl rfl rfl jk0 ?_
    refine ev_mask [true, true, true, true] ?_
    exact hk18 _ _ _ h
  · replace h := jneg c13 h
    refine ev_seg (o := 11) (nL := 4) (q := 312) (xs := [(.iconst 0, 1, 0, 0, .int 0)]) (L' := [some (.ref 0), some (.ref 2), some (.ref 93), some (.int x3)]) (st' := [.int 0]) (w' := q12.2) (g := []) (K := []) (by decide +kernel) rfl rfl rfl rfl jk0 ?_
    cases h
    exact ev_zret (by decide +kernel) rfl rfl rfl rfl rfl
def f_Law_law_j292 (xs : Nat → Int32) (Ls : Nat) (k18 : Int32 → jW → Option (Int32 × jW)) (x3 : Int32) (s0 : Int32) (s1 : Int32) (s2 : Int32) (s4 : Int32) (w : jW) : Option (Int32 × jW) :=
  if jin (x3 + 4) Ls = true then
  if (xs (Int32.toNatClampNeg (x3 + 4))) = 0 then
    f_Law_law_j305 xs Ls k18 x3 0 s0 s1 s2 s4 w
  else
    f_Law_law_j305 xs Ls k18 x3 1 s0 s1 s2 s4 w
  else none
set_option maxRecDepth 20000 in
set_option maxHeartbeats 40000000 in
theorem t_Law_law_j292 {l : Launch} {G : jG} (hG : jX G) {xs : Nat → Int32} {Ls : Nat} (hxs : True) (hLs : jscr G Ls xs) {k18 : Int32 → jW → Option (Int32 × jW)} (hk18 : ∀ (x3 : Int32) (w : jW) (z : (Int32 × jW)), k18 x3 w = some z → Ev l G room_1 y_Law_law (some (.int z.1), jR0, z.2) 600000 7302250 600000 7302250 18 [some (.ref 0), some (.ref 2), some (.ref 93), some (.int x3)] [] jR0 w) {x3 : Int32} {s0 : Int32} {s1 : Int32} {s2 : Int32} {s4 : Int32} {w : jW} {z : (Int32 × jW)} (h : f_Law_law_j292 xs Ls k18 x3 s0 s1 s2 s4 w = some z) : Ev l G room_1 y_Law_law (some (.int z.1), jR0, z.2) 600000 7302250 600000 7302250 292 [some (.ref 0), some (.ref 2), some (.ref 93), some (.int x3)] [.int s0, .int s1, .int s2, .ref 93, .int s4] jR0 w := by
  rw [f_Law_law_j292] at h
  refine ev_seg (o := 11) (nL := 4) (q := 296) (xs := [(.aload_n 0, 1, 0, 0, .null), (.iload_n 3, 1, 3, 0, .null), (.iconst 4, 1, 0, 0, .int 4), (.iadd, 1, 0, 0, .null)]) (L' := [some (.ref 0), some (.ref 2), some (.ref 93), some (.int x3)]) (st' := [.int (x3 + 4), .ref 0, .int s0, .int s1, .int s2, .ref 93, .int s4]) (w' := w) (g := []) (K := []) (by decide +kernel) rfl rfl rfl rfl jk0 ?_
  obtain ⟨hg11, h⟩ := jgd h
  refine ev_sld hLs (by decide +kernel) hg11 ?_
  refine ev_if_eq (off := 7) (tgt := 304) (by decide +kernel) (by decide) (fun c14 => ?_) (fun c14 => ?_)
  · replace h := jpos c14 h
    refine ev_seg (o := 11) (nL := 4) (q := 305) (xs := [(.iconst 0, 1, 0, 0, .int 0)]) (L' := [some (.ref 0), some (.ref 2), some (.ref 93), some (.int x3)]) (st' := [.int 0, .int s0, .int s1, .int s2, .ref 93, .int s4]) (w' := w) (g := []) (K := []) (by decide +kernel) rfl rfl rfl rfl jk0 ?_
    refine ev_mask [true, true, true, true] ?_
    exact t_Law_law_j305 hG hxs hLs hk18 h
  · replace h := jneg c14 h
    refine ev_seg (o := 11) (nL := 4) (q := 305) (xs := [(.iconst 1, 1, 0, 0, .int 1), (.goto 4, 3, 0, 0, .null)]) (L' := [some (.ref 0), some (.ref 2), some (.ref 93), some (.int x3)]) (st' := [.int 1, .int s0, .int s1, .int s2, .ref 93, .int s4]) (w' := w) (g := []) (K := []) (by decide +kernel) rfl rfl rfl rfl jk0 ?_
    refine ev_mask [true, true, true, true] ?_
    exact t_Law_law_j305 hG hxs hLs hk18 h
def f_Law_law_j265 (xs : Nat → Int32) (Ls : Nat) (k18 : Int32 → jW → Option (Int32 × jW)) (x3 : Int32) (s0 : Int32) (s1 : Int32) (s2 : Int32) (s3 : Int32) (w : jW) : Option (Int32 × jW) :=
  Option.bind (f_Count_site s3 s2 s1 s0 w) fun q7 =>
  if jin (x3 + 1) Ls = true then
  if jin (x3 + 2) Ls = true then
  if jin (x3 + 3) Ls = true then
  if (xs (Int32.toNatClampNeg (x3 + 3))) = 0 then
    f_Law_law_j292 xs Ls k18 x3 0 (xs (Int32.toNatClampNeg (x3 + 2))) (xs (Int32.toNatClampNeg (x3 + 1))) q7.1 q7.2
  else
    f_Law_law_j292 xs Ls k18 x3 1 (xs (Int32.toNatClampNeg (x3 + 2))) (xs (Int32.toNatClampNeg (x3 + 1))) q7.1 q7.2
  else none else none else none
set_option maxRecDepth 20000 in
set_option maxHeartbeats 40000000 in
theorem t_Law_law_j265 {l : Launch} {G : jG} (hG : jX G) {xs : Nat → Int32} {Ls : Nat} (hxs : True) (hLs : jscr G Ls xs) {k18 : Int32 → jW → Option (Int32 × jW)} (hk18 : ∀ (x3 : Int32) (w : jW) (z : (Int32 × jW)), k18 x3 w = some z → Ev l G room_1 y_Law_law (some (.int z.1), jR0, z.2) 600000 7302250 600000 7302250 18 [some (.ref 0), some (.ref 2), some (.ref 93), some (.int x3)] [] jR0 w) {x3 : Int32} {s0 : Int32} {s1 : Int32} {s2 : Int32} {s3 : Int32} {w : jW} {z : (Int32 × jW)} (h : f_Law_law_j265 xs Ls k18 x3 s0 s1 s2 s3 w = some z) : Ev l G room_1 y_Law_law (some (.int z.1), jR0, z.2) 600000 7302250 600000 7302250 265 [some (.ref 0), some (.ref 2), some (.ref 93), some (.int x3)] [.int s0, .int s1, .int s2, .int s3, .ref 2] jR0 w := by
  rw [f_Law_law_j265] at h
  obtain ⟨q7, hq7, h⟩ := jbe h
  refine ev_callV (ci := 9) (a := 2) (y2 := y_Count_site) (o := 11) (idx := 13) (d2 := d_Count_site) (n := 4) (mc2 := 0) (ms2 := 0) (As := [.int s3, .int s2, .int s1, .int s0]) (st := []) (res2 := (some (.int q7.1), jR0, q7.2)) (by decide +kernel) rfl lk_11_13 mo_Count_site mv_Count_site ⟨Nat.le_of_ble_eq_true rfl, Nat.le_of_ble_eq_true rfl⟩ rfl rfl kz_2 (by decide) rfl (Nat.le_of_ble_eq_true rfl) ⟨Nat.le_of_ble_eq_true rfl, Nat.le_of_ble_eq_true rfl⟩ hG (e_Count_site hG hq7) ?_
  refine ev_seg (o := 11) (nL := 4) (q := 273) (xs := [(.aload_n 2, 1, 2, 0, .null), (.aload_n 0, 1, 0, 0, .null), (.iload_n 3, 1, 3, 0, .null), (.iconst 1, 1, 0, 0, .int 1), (.iadd, 1, 0, 0, .null)]) (L' := [some (.ref 0), some (.ref 2), some (.ref 93), some (.int x3)]) (st' := [.int (x3 + 1), .ref 0, .ref 93, .int q7.1]) (w' := q7.2) (g := []) (K := []) (by decide +kernel) rfl rfl rfl rfl jk0 ?_
  obtain ⟨hg8, h⟩ := jgd h
  refine ev_sld hLs (by decide +kernel) hg8 ?_
  refine ev_seg (o := 11) (nL := 4) (q := 278) (xs := [(.aload_n 0, 1, 0, 0, .null), (.iload_n 3, 1, 3, 0, .null), (.iconst 2, 1, 0, 0, .int 2), (.iadd, 1, 0, 0, .null)]) (L' := [some (.ref 0), some (.ref 2), some (.ref 93), some (.int x3)]) (st' := [.int (x3 + 2), .ref 0, .int (xs (Int32.toNatClampNeg (x3 + 1))), .ref 93, .int q7.1]) (w' := q7.2) (g := []) (K := []) (by decide +kernel) rfl rfl rfl rfl jk0 ?_
  obtain ⟨hg9, h⟩ := jgd h
  refine ev_sld hLs (by decide +kernel) hg9 ?_
  refine ev_seg (o := 11) (nL := 4) (q := 283) (xs := [(.aload_n 0, 1, 0, 0, .null), (.iload_n 3, 1, 3, 0, .null), (.iconst 3, 1, 0, 0, .int 3), (.iadd, 1, 0, 0, .null)]) (L' := [some (.ref 0), some (.ref 2), some (.ref 93), some (.int x3)]) (st' := [.int (x3 + 3), .ref 0, .int (xs (Int32.toNatClampNeg (x3 + 2))), .int (xs (Int32.toNatClampNeg (x3 + 1))), .ref 93, .int q7.1]) (w' := q7.2) (g := []) (K := []) (by decide +kernel) rfl rfl rfl rfl jk0 ?_
  obtain ⟨hg10, h⟩ := jgd h
  refine ev_sld hLs (by decide +kernel) hg10 ?_
  refine ev_if_eq (off := 7) (tgt := 291) (by decide +kernel) (by decide) (fun c15 => ?_) (fun c15 => ?_)
  · replace h := jpos c15 h
    refine ev_seg (o := 11) (nL := 4) (q := 292) (xs := [(.iconst 0, 1, 0, 0, .int 0)]) (L' := [some (.ref 0), some (.ref 2), some (.ref 93), some (.int x3)]) (st' := [.int 0, .int (xs (Int32.toNatClampNeg (x3 + 2))), .int (xs (Int32.toNatClampNeg (x3 + 1))), .ref 93, .int q7.1]) (w' := q7.2) (g := []) (K := []) (by decide +kernel) rfl rfl rfl rfl jk0 ?_
    refine ev_mask [true, true, true, true] ?_
    exact t_Law_law_j292 hG hxs hLs hk18 h
  · replace h := jneg c15 h
    refine ev_seg (o := 11) (nL := 4) (q := 292) (xs := [(.iconst 1, 1, 0, 0, .int 1), (.goto 4, 3, 0, 0, .null)]) (L' := [some (.ref 0), some (.ref 2), some (.ref 93), some (.int x3)]) (st' := [.int 1, .int (xs (Int32.toNatClampNeg (x3 + 2))), .int (xs (Int32.toNatClampNeg (x3 + 1))), .ref 93, .int q7.1]) (w' := q7.2) (g := []) (K := []) (by decide +kernel) rfl rfl rfl rfl jk0 ?_
    refine ev_mask [true, true, true, true] ?_
    exact t_Law_law_j292 hG hxs hLs hk18 h
def f_Law_law_j252 (xs : Nat → Int32) (Ls : Nat) (k18 : Int32 → jW → Option (Int32 × jW)) (x3 : Int32) (s0 : Int32) (s1 : Int32) (s2 : Int32) (w : jW) : Option (Int32 × jW) :=
  if jin (x3 + 4) Ls = true then
  if (xs (Int32.toNatClampNeg (x3 + 4))) = 0 then
    f_Law_law_j265 xs Ls k18 x3 0 s0 s1 s2 w
  else
    f_Law_law_j265 xs Ls k18 x3 1 s0 s1 s2 w
  else none
set_option maxRecDepth 20000 in
set_option maxHeartbeats 40000000 in
theorem t_Law_law_j252 {l : Launch} {G : jG} (hG : jX G) {xs : Nat → Int32} {Ls : Nat} (hxs : True) (hLs : jscr G Ls xs) {k18 : Int32 → jW → Option (Int32 × jW)} (hk18 : ∀ (x3 : Int32) (w : jW) (z : (Int32 × jW)), k18 x3 w = some z → Ev l G room_1 y_Law_law (some (.int z.1), jR0, z.2) 600000 7302250 600000 7302250 18 [some (.ref 0), some (.ref 2), some (.ref 93), some (.int x3)] [] jR0 w) {x3 : Int32} {s0 : Int32} {s1 : Int32} {s2 : Int32} {w : jW} {z : (Int32 × jW)} (h : f_Law_law_j252 xs Ls k18 x3 s0 s1 s2 w = some z) : Ev l G room_1 y_Law_law (some (.int z.1), jR0, z.2) 600000 7302250 600000 7302250 252 [some (.ref 0), some (.ref 2), some (.ref 93), some (.int x3)] [.int s0, .int s1, .int s2, .ref 2] jR0 w := by
  rw [f_Law_law_j252] at h
  refine ev_seg (o := 11) (nL := 4) (q := 256) (xs := [(.aload_n 0, 1, 0, 0, .null), (.iload_n 3, 1, 3, 0, .null), (.iconst 4, 1, 0, 0, .int 4), (.iadd, 1, 0, 0, .null)]) (L' := [some (.ref 0), some (.ref 2), some (.ref 93), some (.int x3)]) (st' := [.int (x3 + 4), .ref 0, .int s0, .int s1, .int s2, .ref 2]) (w' := w) (g := []) (K := []) (by decide +kernel) rfl rfl rfl rfl jk0 ?_
  obtain ⟨hg6, h⟩ := jgd h
  refine ev_sld hLs (by decide +kernel) hg6 ?_
  refine ev_if_eq (off := 7) (tgt := 264) (by decide +kernel) (by decide) (fun c16 => ?_) (fun c16 => ?_)
  · replace h := jpos c16 h
    refine ev_seg (o := 11) (nL := 4) (q := 265) (xs := [(.iconst 0, 1, 0, 0, .int 0)]) (L' := [some (.ref 0), some (.ref 2), some (.ref 93), some (.int x3)]) (st' := [.int 0, .int s0, .int s1, .int s2, .ref 2]) (w' := w) (g := []) (K := []) (by decide +kernel) rfl rfl rfl rfl jk0 ?_
    refine ev_mask [true, true, true, true] ?_
    exact t_Law_law_j265 hG hxs hLs hk18 h
  · replace h := jneg c16 h
    refine ev_seg (o := 11) (nL := 4) (q := 265) (xs := [(.iconst 1, 1, 0, 0, .int 1), (.goto 4, 3, 0, 0, .null)]) (L' := [some (.ref 0), some (.ref 2), some (.ref 93), some (.int x3)]) (st' := [.int 1, .int s0, .int s1, .int s2, .ref 2]) (w' := w) (g := []) (K := []) (by decide +kernel) rfl rfl rfl rfl jk0 ?_
    refine ev_mask [true, true, true, true] ?_
    exact t_Law_law_j265 hG hxs hLs hk18 h
def f_Law_law_j1322 (xs : Nat → Int32) (Ls : Nat) (k18 : Int32 → jW → Option (Int32 × jW)) (x3 : Int32) (s0 : Int32) (s1 : Int32) (s2 : Int32) (s3 : Int32) (s4 : Int32) (s6 : Int32) (w : jW) : Option (Int32 × jW) :=
  Option.bind (f_Model_possible s4 s3 s2 s1 s0 w) fun q254 =>
  if s6 = q254.1 then
    k18 (x3 + 8) q254.2
  else
    some (0, q254.2)
set_option maxRecDepth 20000 in
set_option maxHeartbeats 40000000 in
theorem t_Law_law_j1322 {l : Launch} {G : jG} (hG : jX G) {xs : Nat → Int32} {Ls : Nat} (hxs : True) (hLs : jscr G Ls xs) {k18 : Int32 → jW → Option (Int32 × jW)} (hk18 : ∀ (x3 : Int32) (w : jW) (z : (Int32 × jW)), k18 x3 w = some z → Ev l G room_1 y_Law_law (some (.int z.1), jR0, z.2) 600000 7302250 600000 7302250 18 [some (.ref 0), some (.ref 2), some (.ref 93), some (.int x3)] [] jR0 w) {x3 : Int32} {s0 : Int32} {s1 : Int32} {s2 : Int32} {s3 : Int32} {s4 : Int32} {s6 : Int32} {w : jW} {z : (Int32 × jW)} (h : f_Law_law_j1322 xs Ls k18 x3 s0 s1 s2 s3 s4 s6 w = some z) : Ev l G room_1 y_Law_law (some (.int z.1), jR0, z.2) 600000 7302250 600000 7302250 1322 [some (.ref 0), some (.ref 2), some (.ref 93), some (.int x3)] [.int s0, .int s1, .int s2, .int s3, .int s4, .ref 93, .int s6] jR0 w := by
  rw [f_Law_law_j1322] at h
  obtain ⟨q254, hq254, h⟩ := jbe h
  refine ev_callV (ci := 10) (a := 93) (y2 := y_Model_possible) (o := 11) (idx := 133) (d2 := d_Model_possible) (n := 5) (mc2 := 0) (ms2 := 0) (As := [.int s4, .int s3, .int s2, .int s1, .int s0]) (st := [.int s6]) (res2 := (some (.int q254.1), jR0, q254.2)) (by decide +kernel) rfl lk_11_133 mo_Model_possible mv_Model_possible ⟨Nat.le_of_ble_eq_true rfl, Nat.le_of_ble_eq_true rfl⟩ rfl rfl kz_93 (by decide) rfl (Nat.le_of_ble_eq_true rfl) ⟨Nat.le_of_ble_eq_true rfl, Nat.le_of_ble_eq_true rfl⟩ hG (e_Model_possible hG hq254) ?_
  refine ev_icmp_eq (off := 684) (tgt := 2009) (by decide +kernel) (by decide) (fun c255 => ?_) (fun c255 => ?_)
  · replace h := jpos c255 h
    refine ev_seg (o := 11) (nL := 4) (q := 18) (xs := [(.iinc 3 8, 3, 3, 0, .int 8), (.goto (-1994), 3, 0, 0, .null)]) (L' := [some (.ref 0), some (.ref 2), some (.ref 93), some (.int (x3 + 8))]) (st' := []) (w' := q254.2) (g := []) (K := []) (by decide +kernel) rfl rfl rfl rfl jk0 ?_
    refine ev_mask [true, true, true, true] ?_
    exact hk18 _ _ _ h
  · replace h := jneg c255 h
    refine ev_seg (o := 11) (nL := 4) (q := 1329) (xs := [(.iconst 0, 1, 0, 0, .int 0)]) (L' := [some (.ref 0), some (.ref 2), some (.ref 93), some (.int x3)]) (st' := [.int 0]) (w' := q254.2) (g := []) (K := []) (by decide +kernel) rfl rfl rfl rfl jk0 ?_
    cases h
    exact ev_zret (by decide +kernel) rfl rfl rfl rfl rfl
def f_Law_law_j1285 (xs : Nat → Int32) (Ls : Nat) (k18 : Int32 → jW → Option (Int32 × jW)) (x3 : Int32) (s0 : Int32) (s1 : Int32) (s2 : Int32) (s3 : Int32) (s4 : Int32) (w : jW) : Option (Int32 × jW) :=
  Option.bind (f_Count_possible s4 s3 s2 s1 s0 w) fun q248 =>
  if jin (x3 + 1) Ls = true then
  if jin (x3 + 2) Ls = true then
  if jin (x3 + 3) Ls = true then
  if jin (x3 + 4) Ls = true then
  if jin (x3 + 5) Ls = true then
  if (xs (Int32.toNatClampNeg (x3 + 5))) = 0 then
    f_Law_law_j1322 xs Ls k18 x3 0 (xs (Int32.toNatClampNeg (x3 + 4))) (xs (Int32.toNatClampNeg (x3 + 3))) (xs (Int32.toNatClampNeg (x3 + 2))) (xs (Int32.toNatClampNeg (x3 + 1))) q248.1 q248.2
  else
    f_Law_law_j1322 xs Ls k18 x3 1 (xs (Int32.toNatClampNeg (x3 + 4))) (xs (Int32.toNatClampNeg (x3 + 3))) (xs (Int32.toNatClampNeg (x3 + 2))) (xs (Int32.toNatClampNeg (x3 + 1))) q248.1 q248.2
  else none else none else none else none else none
set_option maxRecDepth 20000 in
set_option maxHeartbeats 40000000 in
theorem t_Law_law_j1285 {l : Launch} {G : jG} (hG : jX G) {xs : Nat → Int32} {Ls : Nat} (hxs : True) (hLs : jscr G Ls xs) {k18 : Int32 → jW → Option (Int32 × jW)} (hk18 : ∀ (x3 : Int32) (w : jW) (z : (Int32 × jW)), k18 x3 w = some z → Ev l G room_1 y_Law_law (some (.int z.1), jR0, z.2) 600000 7302250 600000 7302250 18 [some (.ref 0), some (.ref 2), some (.ref 93), some (.int x3)] [] jR0 w) {x3 : Int32} {s0 : Int32} {s1 : Int32} {s2 : Int32} {s3 : Int32} {s4 : Int32} {w : jW} {z : (Int32 × jW)} (h : f_Law_law_j1285 xs Ls k18 x3 s0 s1 s2 s3 s4 w = some z) : Ev l G room_1 y_Law_law (some (.int z.1), jR0, z.2) 600000 7302250 600000 7302250 1285 [some (.ref 0), some (.ref 2), some (.ref 93), some (.int x3)] [.int s0, .int s1, .int s2, .int s3, .int s4, .ref 2] jR0 w := by
  rw [f_Law_law_j1285] at h
  obtain ⟨q248, hq248, h⟩ := jbe h
  refine ev_callV (ci := 9) (a := 2) (y2 := y_Count_possible) (o := 11) (idx := 129) (d2 := d_Count_possible) (n := 5) (mc2 := 0) (ms2 := 0) (As := [.int s4, .int s3, .int s2, .int s1, .int s0]) (st := []) (res2 := (some (.int q248.1), jR0, q248.2)) (by decide +kernel) rfl lk_11_129 mo_Count_possible mv_Count_possible ⟨Nat.le_of_ble_eq_true rfl, Nat.le_of_ble_eq_true rfl⟩ rfl rfl kz_2 (by decide) rfl (Nat.le_of_ble_eq_true rfl) ⟨Nat.le_of_ble_eq_true rfl, Nat.le_of_ble_eq_true rfl⟩ hG (e_Count_possible hG hq248) ?_
  refine ev_seg (o := 11) (nL := 4) (q := 1293) (xs := [(.aload_n 2, 1, 2, 0, .null), (.aload_n 0, 1, 0, 0, .null), (.iload_n 3, 1, 3, 0, .null), (.iconst 1, 1, 0, 0, .int 1), (.iadd, 1, 0, 0, .null)]) (L' := [some (.ref 0), some (.ref 2), some (.ref 93), some (.int x3)]) (st' := [.int (x3 + 1), .ref 0, .ref 93, .int q248.1]) (w' := q248.2) (g := []) (K := []) (by decide +kernel) rfl rfl rfl rfl jk0 ?_
  obtain ⟨hg249, h⟩ := jgd h
  refine ev_sld hLs (by decide +kernel) hg249 ?_
  refine ev_seg (o := 11) (nL := 4) (q := 1298) (xs := [(.aload_n 0, 1, 0, 0, .null), (.iload_n 3, 1, 3, 0, .null), (.iconst 2, 1, 0, 0, .int 2), (.iadd, 1, 0, 0, .null)]) (L' := [some (.ref 0), some (.ref 2), some (.ref 93), some (.int x3)]) (st' := [.int (x3 + 2), .ref 0, .int (xs (Int32.toNatClampNeg (x3 + 1))), .ref 93, .int q248.1]) (w' := q248.2) (g := []) (K := []) (by decide +kernel) rfl rfl rfl rfl jk0 ?_
  obtain ⟨hg250, h⟩ := jgd h
  refine ev_sld hLs (by decide +kernel) hg250 ?_
  refine ev_seg (o := 11) (nL := 4) (q := 1303) (xs := [(.aload_n 0, 1, 0, 0, .null), (.iload_n 3, 1, 3, 0, .null), (.iconst 3, 1, 0, 0, .int 3), (.iadd, 1, 0, 0, .null)]) (L' := [some (.ref 0), some (.ref 2), some (.ref 93), some (.int x3)]) (st' := [.int (x3 + 3), .ref 0, .int (xs (Int32.toNatClampNeg (x3 + 2))), .int (xs (Int32.toNatClampNeg (x3 + 1))), .ref 93, .int q248.1]) (w' := q248.2) (g := []) (K := []) (by decide +kernel) rfl rfl rfl rfl jk0 ?_
  obtain ⟨hg251, h⟩ := jgd h
  refine ev_sld hLs (by decide +kernel) hg251 ?_
  refine ev_seg (o := 11) (nL := 4) (q := 1308) (xs := [(.aload_n 0, 1, 0, 0, .null), (.iload_n 3, 1, 3, 0, .null), (.iconst 4, 1, 0, 0, .int 4), (.iadd, 1, 0, 0, .null)]) (L' := [some (.ref 0), some (.ref 2), some (.ref 93), some (.int x3)]) (st' := [.int (x3 + 4), .ref 0, .int (xs (Int32.toNatClampNeg (x3 + 3))), .int (xs (Int32.toNatClampNeg (x3 + 2))), .int (xs (Int32.toNatClampNeg (x3 + 1))), .ref 93, .int q248.1]) (w' := q248.2) (g := []) (K := []) (by decide +kernel) rfl rfl rfl rfl jk0 ?_
  obtain ⟨hg252, h⟩ := jgd h
  refine ev_sld hLs (by decide +kernel) hg252 ?_
  refine ev_seg (o := 11) (nL := 4) (q := 1313) (xs := [(.aload_n 0, 1, 0, 0, .null), (.iload_n 3, 1, 3, 0, .null), (.iconst 5, 1, 0, 0, .int 5), (.iadd, 1, 0, 0, .null)]) (L' := [some (.ref 0), some (.ref 2), some (.ref 93), some (.int x3)]) (st' := [.int (x3 + 5), .ref 0, .int (xs (Int32.toNatClampNeg (x3 + 4))), .int (xs (Int32.toNatClampNeg (x3 + 3))), .int (xs (Int32.toNatClampNeg (x3 + 2))), .int (xs (Int32.toNatClampNeg (x3 + 1))), .ref 93, .int q248.1]) (w' := q248.2) (g := []) (K := []) (by decide +kernel) rfl rfl rfl rfl jk0 ?_
  obtain ⟨hg253, h⟩ := jgd h
  refine ev_sld hLs (by decide +kernel) hg253 ?_
  refine ev_if_eq (off := 7) (tgt := 1321) (by decide +kernel) (by decide) (fun c256 => ?_) (fun c256 => ?_)
  · replace h := jpos c256 h
    refine ev_seg (o := 11) (nL := 4) (q := 1322) (xs := [(.iconst 0, 1, 0, 0, .int 0)]) (L' := [some (.ref 0), some (.ref 2), some (.ref 93), some (.int x3)]) (st' := [.int 0, .int (xs (Int32.toNatClampNeg (x3 + 4))), .int (xs (Int32.toNatClampNeg (x3 + 3))), .int (xs (Int32.toNatClampNeg (x3 + 2))), .int (xs (Int32.toNatClampNeg (x3 + 1))), .ref 93, .int q248.1]) (w' := q248.2) (g := []) (K := []) (by decide +kernel) rfl rfl rfl rfl jk0 ?_
    refine ev_mask [true, true, true, true] ?_
    exact t_Law_law_j1322 hG hxs hLs hk18 h
  · replace h := jneg c256 h
    refine ev_seg (o := 11) (nL := 4) (q := 1322) (xs := [(.iconst 1, 1, 0, 0, .int 1), (.goto 4, 3, 0, 0, .null)]) (L' := [some (.ref 0), some (.ref 2), some (.ref 93), some (.int x3)]) (st' := [.int 1, .int (xs (Int32.toNatClampNeg (x3 + 4))), .int (xs (Int32.toNatClampNeg (x3 + 3))), .int (xs (Int32.toNatClampNeg (x3 + 2))), .int (xs (Int32.toNatClampNeg (x3 + 1))), .ref 93, .int q248.1]) (w' := q248.2) (g := []) (K := []) (by decide +kernel) rfl rfl rfl rfl jk0 ?_
    refine ev_mask [true, true, true, true] ?_
    exact t_Law_law_j1322 hG hxs hLs hk18 h
def f_Law_law_j1675 (xs : Nat → Int32) (Ls : Nat) (k18 : Int32 → jW → Option (Int32 × jW)) (x3 : Int32) (s0 : Int32) (s1 : Int32) (s2 : Int32) (s4 : Int64) (w : jW) : Option (Int32 × jW) :=
  Option.bind (f_Model_value s2 s1 s0 w) fun q336 =>
  if (lg_cmp s4 q336.1) = 0 then
    k18 (x3 + 8) q336.2
  else
    some (0, q336.2)
set_option maxRecDepth 20000 in
set_option maxHeartbeats 40000000 in
theorem t_Law_law_j1675 {l : Launch} {G : jG} (hG : jX G) {xs : Nat → Int32} {Ls : Nat} (hxs : True) (hLs : jscr G Ls xs) {k18 : Int32 → jW → Option (Int32 × jW)} (hk18 : ∀ (x3 : Int32) (w : jW) (z : (Int32 × jW)), k18 x3 w = some z → Ev l G room_1 y_Law_law (some (.int z.1), jR0, z.2) 600000 7302250 600000 7302250 18 [some (.ref 0), some (.ref 2), some (.ref 93), some (.int x3)] [] jR0 w) {x3 : Int32} {s0 : Int32} {s1 : Int32} {s2 : Int32} {s4 : Int64} {w : jW} {z : (Int32 × jW)} (h : f_Law_law_j1675 xs Ls k18 x3 s0 s1 s2 s4 w = some z) : Ev l G room_1 y_Law_law (some (.int z.1), jR0, z.2) 600000 7302250 600000 7302250 1675 [some (.ref 0), some (.ref 2), some (.ref 93), some (.int x3)] [.int s0, .int s1, .int s2, .ref 93, .long s4] jR0 w := by
  rw [f_Law_law_j1675] at h
  obtain ⟨q336, hq336, h⟩ := jbe h
  refine ev_callV (ci := 10) (a := 93) (y2 := y_Model_value) (o := 11) (idx := 172) (d2 := d_Model_value) (n := 3) (mc2 := 0) (ms2 := 0) (As := [.int s2, .int s1, .int s0]) (st := [.long s4]) (res2 := (some (.long q336.1), jR0, q336.2)) (by decide +kernel) rfl lk_11_172 mo_Model_value mv_Model_value ⟨Nat.le_of_ble_eq_true rfl, Nat.le_of_ble_eq_true rfl⟩ rfl rfl kz_93 (by decide) rfl (Nat.le_of_ble_eq_true rfl) ⟨Nat.le_of_ble_eq_true rfl, Nat.le_of_ble_eq_true rfl⟩ hG (e_Model_value hG hq336) ?_
  refine ev_seg (o := 11) (nL := 4) (q := 1679) (xs := [(.lcmp, 1, 0, 0, .null)]) (L' := [some (.ref 0), some (.ref 2), some (.ref 93), some (.int x3)]) (st' := [.int (lg_cmp s4 q336.1)]) (w' := q336.2) (g := []) (K := []) (by decide +kernel) rfl rfl rfl rfl jk0 ?_
  refine ev_if_eq (off := 330) (tgt := 2009) (by decide +kernel) (by decide) (fun c337 => ?_) (fun c337 => ?_)
  · replace h := jpos c337 h
    refine ev_seg (o := 11) (nL := 4) (q := 18) (xs := [(.iinc 3 8, 3, 3, 0, .int 8), (.goto (-1994), 3, 0, 0, .null)]) (L' := [some (.ref 0), some (.ref 2), some (.ref 93), some (.int (x3 + 8))]) (st' := []) (w' := q336.2) (g := []) (K := []) (by decide +kernel) rfl rfl rfl rfl jk0 ?_
    refine ev_mask [true, true, true, true] ?_
    exact hk18 _ _ _ h
  · replace h := jneg c337 h
    refine ev_seg (o := 11) (nL := 4) (q := 1683) (xs := [(.iconst 0, 1, 0, 0, .int 0)]) (L' := [some (.ref 0), some (.ref 2), some (.ref 93), some (.int x3)]) (st' := [.int 0]) (w' := q336.2) (g := []) (K := []) (by decide +kernel) rfl rfl rfl rfl jk0 ?_
    cases h
    exact ev_zret (by decide +kernel) rfl rfl rfl rfl rfl
def f_Law_law_j1648 (xs : Nat → Int32) (Ls : Nat) (k18 : Int32 → jW → Option (Int32 × jW)) (x3 : Int32) (s0 : Int32) (s1 : Int32) (s2 : Int32) (w : jW) : Option (Int32 × jW) :=
  Option.bind (f_Count_value s2 s1 s0 w) fun q332 =>
  if jin (x3 + 1) Ls = true then
  if jin (x3 + 2) Ls = true then
  if jin (x3 + 3) Ls = true then
  if (xs (Int32.toNatClampNeg (x3 + 3))) = 0 then
    f_Law_law_j1675 xs Ls k18 x3 0 (xs (Int32.toNatClampNeg (x3 + 2))) (xs (Int32.toNatClampNeg (x3 + 1))) q332.1 q332.2
  else
    f_Law_law_j1675 xs Ls k18 x3 1 (xs (Int32.toNatClampNeg (x3 + 2))) (xs (Int32.toNatClampNeg (x3 + 1))) q332.1 q332.2
  else none else none else none
set_option maxRecDepth 20000 in
set_option maxHeartbeats 40000000 in
theorem t_Law_law_j1648 {l : Launch} {G : jG} (hG : jX G) {xs : Nat → Int32} {Ls : Nat} (hxs : True) (hLs : jscr G Ls xs) {k18 : Int32 → jW → Option (Int32 × jW)} (hk18 : ∀ (x3 : Int32) (w : jW) (z : (Int32 × jW)), k18 x3 w = some z → Ev l G room_1 y_Law_law (some (.int z.1), jR0, z.2) 600000 7302250 600000 7302250 18 [some (.ref 0), some (.ref 2), some (.ref 93), some (.int x3)] [] jR0 w) {x3 : Int32} {s0 : Int32} {s1 : Int32} {s2 : Int32} {w : jW} {z : (Int32 × jW)} (h : f_Law_law_j1648 xs Ls k18 x3 s0 s1 s2 w = some z) : Ev l G room_1 y_Law_law (some (.int z.1), jR0, z.2) 600000 7302250 600000 7302250 1648 [some (.ref 0), some (.ref 2), some (.ref 93), some (.int x3)] [.int s0, .int s1, .int s2, .ref 2] jR0 w := by
  rw [f_Law_law_j1648] at h
  obtain ⟨q332, hq332, h⟩ := jbe h
  refine ev_callV (ci := 9) (a := 2) (y2 := y_Count_value) (o := 11) (idx := 168) (d2 := d_Count_value) (n := 3) (mc2 := 0) (ms2 := 0) (As := [.int s2, .int s1, .int s0]) (st := []) (res2 := (some (.long q332.1), jR0, q332.2)) (by decide +kernel) rfl lk_11_168 mo_Count_value mv_Count_value ⟨Nat.le_of_ble_eq_true rfl, Nat.le_of_ble_eq_true rfl⟩ rfl rfl kz_2 (by decide) rfl (Nat.le_of_ble_eq_true rfl) ⟨Nat.le_of_ble_eq_true rfl, Nat.le_of_ble_eq_true rfl⟩ hG (e_Count_value hG hq332) ?_
  refine ev_seg (o := 11) (nL := 4) (q := 1656) (xs := [(.aload_n 2, 1, 2, 0, .null), (.aload_n 0, 1, 0, 0, .null), (.iload_n 3, 1, 3, 0, .null), (.iconst 1, 1, 0, 0, .int 1), (.iadd, 1, 0, 0, .null)]) (L' := [some (.ref 0), some (.ref 2), some (.ref 93), some (.int x3)]) (st' := [.int (x3 + 1), .ref 0, .ref 93, .long q332.1]) (w' := q332.2) (g := []) (K := []) (by decide +kernel) rfl rfl rfl rfl jk0 ?_
  obtain ⟨hg333, h⟩ := jgd h
  refine ev_sld hLs (by decide +kernel) hg333 ?_
  refine ev_seg (o := 11) (nL := 4) (q := 1661) (xs := [(.aload_n 0, 1, 0, 0, .null), (.iload_n 3, 1, 3, 0, .null), (.iconst 2, 1, 0, 0, .int 2), (.iadd, 1, 0, 0, .null)]) (L' := [some (.ref 0), some (.ref 2), some (.ref 93), some (.int x3)]) (st' := [.int (x3 + 2), .ref 0, .int (xs (Int32.toNatClampNeg (x3 + 1))), .ref 93, .long q332.1]) (w' := q332.2) (g := []) (K := []) (by decide +kernel) rfl rfl rfl rfl jk0 ?_
  obtain ⟨hg334, h⟩ := jgd h
  refine ev_sld hLs (by decide +kernel) hg334 ?_
  refine ev_seg (o := 11) (nL := 4) (q := 1666) (xs := [(.aload_n 0, 1, 0, 0, .null), (.iload_n 3, 1, 3, 0, .null), (.iconst 3, 1, 0, 0, .int 3), (.iadd, 1, 0, 0, .null)]) (L' := [some (.ref 0), some (.ref 2), some (.ref 93), some (.int x3)]) (st' := [.int (x3 + 3), .ref 0, .int (xs (Int32.toNatClampNeg (x3 + 2))), .int (xs (Int32.toNatClampNeg (x3 + 1))), .ref 93, .long q332.1]) (w' := q332.2) (g := []) (K := []) (by decide +kernel) rfl rfl rfl rfl jk0 ?_
  obtain ⟨hg335, h⟩ := jgd h
  refine ev_sld hLs (by decide +kernel) hg335 ?_
  refine ev_if_eq (off := 7) (tgt := 1674) (by decide +kernel) (by decide) (fun c338 => ?_) (fun c338 => ?_)
  · replace h := jpos c338 h
    refine ev_seg (o := 11) (nL := 4) (q := 1675) (xs := [(.iconst 0, 1, 0, 0, .int 0)]) (L' := [some (.ref 0), some (.ref 2), some (.ref 93), some (.int x3)]) (st' := [.int 0, .int (xs (Int32.toNatClampNeg (x3 + 2))), .int (xs (Int32.toNatClampNeg (x3 + 1))), .ref 93, .long q332.1]) (w' := q332.2) (g := []) (K := []) (by decide +kernel) rfl rfl rfl rfl jk0 ?_
    refine ev_mask [true, true, true, true] ?_
    exact t_Law_law_j1675 hG hxs hLs hk18 h
  · replace h := jneg c338 h
    refine ev_seg (o := 11) (nL := 4) (q := 1675) (xs := [(.iconst 1, 1, 0, 0, .int 1), (.goto 4, 3, 0, 0, .null)]) (L' := [some (.ref 0), some (.ref 2), some (.ref 93), some (.int x3)]) (st' := [.int 1, .int (xs (Int32.toNatClampNeg (x3 + 2))), .int (xs (Int32.toNatClampNeg (x3 + 1))), .ref 93, .long q332.1]) (w' := q332.2) (g := []) (K := []) (by decide +kernel) rfl rfl rfl rfl jk0 ?_
    refine ev_mask [true, true, true, true] ?_
    exact t_Law_law_j1675 hG hxs hLs hk18 h
def f_Law_law_j1745 (xs : Nat → Int32) (Ls : Nat) (k18 : Int32 → jW → Option (Int32 × jW)) (x3 : Int32) (s0 : Int32) (s1 : Int32) (s2 : Int32) (s3 : Int32) (s5 : Int64) (w : jW) : Option (Int32 × jW) :=
  Option.bind (f_Model_share s3 s2 s1 s0 w) fun q350 =>
  if (lg_cmp s5 q350.1) = 0 then
    k18 (x3 + 8) q350.2
  else
    some (0, q350.2)
set_option maxRecDepth 20000 in
set_option maxHeartbeats 40000000 in
theorem t_Law_law_j1745 {l : Launch} {G : jG} (hG : jX G) {xs : Nat → Int32} {Ls : Nat} (hxs : True) (hLs : jscr G Ls xs) {k18 : Int32 → jW → Option (Int32 × jW)} (hk18 : ∀ (x3 : Int32) (w : jW) (z : (Int32 × jW)), k18 x3 w = some z → Ev l G room_1 y_Law_law (some (.int z.1), jR0, z.2) 600000 7302250 600000 7302250 18 [some (.ref 0), some (.ref 2), some (.ref 93), some (.int x3)] [] jR0 w) {x3 : Int32} {s0 : Int32} {s1 : Int32} {s2 : Int32} {s3 : Int32} {s5 : Int64} {w : jW} {z : (Int32 × jW)} (h : f_Law_law_j1745 xs Ls k18 x3 s0 s1 s2 s3 s5 w = some z) : Ev l G room_1 y_Law_law (some (.int z.1), jR0, z.2) 600000 7302250 600000 7302250 1745 [some (.ref 0), some (.ref 2), some (.ref 93), some (.int x3)] [.int s0, .int s1, .int s2, .int s3, .ref 93, .long s5] jR0 w := by
  rw [f_Law_law_j1745] at h
  obtain ⟨q350, hq350, h⟩ := jbe h
  refine ev_callV (ci := 10) (a := 93) (y2 := y_Model_share) (o := 11) (idx := 177) (d2 := d_Model_share) (n := 4) (mc2 := 0) (ms2 := 0) (As := [.int s3, .int s2, .int s1, .int s0]) (st := [.long s5]) (res2 := (some (.long q350.1), jR0, q350.2)) (by decide +kernel) rfl lk_11_177 mo_Model_share mv_Model_share ⟨Nat.le_of_ble_eq_true rfl, Nat.le_of_ble_eq_true rfl⟩ rfl rfl kz_93 (by decide) rfl (Nat.le_of_ble_eq_true rfl) ⟨Nat.le_of_ble_eq_true rfl, Nat.le_of_ble_eq_true rfl⟩ hG (e_Model_share hG hq350) ?_
  refine ev_seg (o := 11) (nL := 4) (q := 1749) (xs := [(.lcmp, 1, 0, 0, .null)]) (L' := [some (.ref 0), some (.ref 2), some (.ref 93), some (.int x3)]) (st' := [.int (lg_cmp s5 q350.1)]) (w' := q350.2) (g := []) (K := []) (by decide +kernel) rfl rfl rfl rfl jk0 ?_
  refine ev_if_eq (off := 260) (tgt := 2009) (by decide +kernel) (by decide) (fun c351 => ?_) (fun c351 => ?_)
  · replace h := jpos c351 h
    refine ev_seg (o := 11) (nL := 4) (q := 18) (xs := [(.iinc 3 8, 3, 3, 0, .int 8), (.goto (-1994), 3, 0, 0, .null)]) (L' := [some (.ref 0), some (.ref 2), some (.ref 93), some (.int (x3 + 8))]) (st' := []) (w' := q350.2) (g := []) (K := []) (by decide +kernel) rfl rfl rfl rfl jk0 ?_
    refine ev_mask [true, true, true, true] ?_
    exact hk18 _ _ _ h
  · replace h := jneg c351 h
    refine ev_seg (o := 11) (nL := 4) (q := 1753) (xs := [(.iconst 0, 1, 0, 0, .int 0)]) (L' := [some (.ref 0), some (.ref 2), some (.ref 93), some (.int x3)]) (st' := [.int 0]) (w' := q350.2) (g := []) (K := []) (by decide +kernel) rfl rfl rfl rfl jk0 ?_
    cases h
    exact ev_zret (by decide +kernel) rfl rfl rfl rfl rfl
def f_Law_law_j1713 (xs : Nat → Int32) (Ls : Nat) (k18 : Int32 → jW → Option (Int32 × jW)) (x3 : Int32) (s0 : Int32) (s1 : Int32) (s2 : Int32) (s3 : Int32) (w : jW) : Option (Int32 × jW) :=
  Option.bind (f_Count_share s3 s2 s1 s0 w) fun q345 =>
  if jin (x3 + 1) Ls = true then
  if jin (x3 + 2) Ls = true then
  if jin (x3 + 3) Ls = true then
  if jin (x3 + 4) Ls = true then
  if (xs (Int32.toNatClampNeg (x3 + 4))) = 0 then
    f_Law_law_j1745 xs Ls k18 x3 0 (xs (Int32.toNatClampNeg (x3 + 3))) (xs (Int32.toNatClampNeg (x3 + 2))) (xs (Int32.toNatClampNeg (x3 + 1))) q345.1 q345.2
  else
    f_Law_law_j1745 xs Ls k18 x3 1 (xs (Int32.toNatClampNeg (x3 + 3))) (xs (Int32.toNatClampNeg (x3 + 2))) (xs (Int32.toNatClampNeg (x3 + 1))) q345.1 q345.2
  else none else none else none else none
set_option maxRecDepth 20000 in
set_option maxHeartbeats 40000000 in
theorem t_Law_law_j1713 {l : Launch} {G : jG} (hG : jX G) {xs : Nat → Int32} {Ls : Nat} (hxs : True) (hLs : jscr G Ls xs) {k18 : Int32 → jW → Option (Int32 × jW)} (hk18 : ∀ (x3 : Int32) (w : jW) (z : (Int32 × jW)), k18 x3 w = some z → Ev l G room_1 y_Law_law (some (.int z.1), jR0, z.2) 600000 7302250 600000 7302250 18 [some (.ref 0), some (.ref 2), some (.ref 93), some (.int x3)] [] jR0 w) {x3 : Int32} {s0 : Int32} {s1 : Int32} {s2 : Int32} {s3 : Int32} {w : jW} {z : (Int32 × jW)} (h : f_Law_law_j1713 xs Ls k18 x3 s0 s1 s2 s3 w = some z) : Ev l G room_1 y_Law_law (some (.int z.1), jR0, z.2) 600000 7302250 600000 7302250 1713 [some (.ref 0), some (.ref 2), some (.ref 93), some (.int x3)] [.int s0, .int s1, .int s2, .int s3, .ref 2] jR0 w := by
  rw [f_Law_law_j1713] at h
  obtain ⟨q345, hq345, h⟩ := jbe h
  refine ev_callV (ci := 9) (a := 2) (y2 := y_Count_share) (o := 11) (idx := 173) (d2 := d_Count_share) (n := 4) (mc2 := 0) (ms2 := 0) (As := [.int s3, .int s2, .int s1, .int s0]) (st := []) (res2 := (some (.long q345.1), jR0, q345.2)) (by decide +kernel) rfl lk_11_173 mo_Count_share mv_Count_share ⟨Nat.le_of_ble_eq_true rfl, Nat.le_of_ble_eq_true rfl⟩ rfl rfl kz_2 (by decide) rfl (Nat.le_of_ble_eq_true rfl) ⟨Nat.le_of_ble_eq_true rfl, Nat.le_of_ble_eq_true rfl⟩ hG (e_Count_share hG hq345) ?_
  refine ev_seg (o := 11) (nL := 4) (q := 1721) (xs := [(.aload_n 2, 1, 2, 0, .null), (.aload_n 0, 1, 0, 0, .null), (.iload_n 3, 1, 3, 0, .null), (.iconst 1, 1, 0, 0, .int 1), (.iadd, 1, 0, 0, .null)]) (L' := [some (.ref 0), some (.ref 2), some (.ref 93), some (.int x3)]) (st' := [.int (x3 + 1), .ref 0, .ref 93, .long q345.1]) (w' := q345.2) (g := []) (K := []) (by decide +kernel) rfl rfl rfl rfl jk0 ?_
  obtain ⟨hg346, h⟩ := jgd h
  refine ev_sld hLs (by decide +kernel) hg346 ?_
  refine ev_seg (o := 11) (nL := 4) (q := 1726) (xs := [(.aload_n 0, 1, 0, 0, .null), (.iload_n 3, 1, 3, 0, .null), (.iconst 2, 1, 0, 0, .int 2), (.iadd, 1, 0, 0, .null)]) (L' := [some (.ref 0), some (.ref 2), some (.ref 93), some (.int x3)]) (st' := [.int (x3 + 2), .ref 0, .int (xs (Int32.toNatClampNeg (x3 + 1))), .ref 93, .long q345.1]) (w' := q345.2) (g := []) (K := []) (by decide +kernel) rfl rfl rfl rfl jk0 ?_
  obtain ⟨hg347, h⟩ := jgd h
  refine ev_sld hLs (by decide +kernel) hg347 ?_
  refine ev_seg (o := 11) (nL := 4) (q := 1731) (xs := [(.aload_n 0, 1, 0, 0, .null), (.iload_n 3, 1, 3, 0, .null), (.iconst 3, 1, 0, 0, .int 3), (.iadd, 1, 0, 0, .null)]) (L' := [some (.ref 0), some (.ref 2), some (.ref 93), some (.int x3)]) (st' := [.int (x3 + 3), .ref 0, .int (xs (Int32.toNatClampNeg (x3 + 2))), .int (xs (Int32.toNatClampNeg (x3 + 1))), .ref 93, .long q345.1]) (w' := q345.2) (g := []) (K := []) (by decide +kernel) rfl rfl rfl rfl jk0 ?_
  obtain ⟨hg348, h⟩ := jgd h
  refine ev_sld hLs (by decide +kernel) hg348 ?_
  refine ev_seg (o := 11) (nL := 4) (q := 1736) (xs := [(.aload_n 0, 1, 0, 0, .null), (.iload_n 3, 1, 3, 0, .null), (.iconst 4, 1, 0, 0, .int 4), (.iadd, 1, 0, 0, .null)]) (L' := [some (.ref 0), some (.ref 2), some (.ref 93), some (.int x3)]) (st' := [.int (x3 + 4), .ref 0, .int (xs (Int32.toNatClampNeg (x3 + 3))), .int (xs (Int32.toNatClampNeg (x3 + 2))), .int (xs (Int32.toNatClampNeg (x3 + 1))), .ref 93, .long q345.1]) (w' := q345.2) (g := []) (K := []) (by decide +kernel) rfl rfl rfl rfl jk0 ?_
  obtain ⟨hg349, h⟩ := jgd h
  refine ev_sld hLs (by decide +kernel) hg349 ?_
  refine ev_if_eq (off := 7) (tgt := 1744) (by decide +kernel) (by decide) (fun c352 => ?_) (fun c352 => ?_)
  · replace h := jpos c352 h
    refine ev_seg (o := 11) (nL := 4) (q := 1745) (xs := [(.iconst 0, 1, 0, 0, .int 0)]) (L' := [some (.ref 0), some (.ref 2), some (.ref 93), some (.int x3)]) (st' := [.int 0, .int (xs (Int32.toNatClampNeg (x3 + 3))), .int (xs (Int32.toNatClampNeg (x3 + 2))), .int (xs (Int32.toNatClampNeg (x3 + 1))), .ref 93, .long q345.1]) (w' := q345.2) (g := []) (K := []) (by decide +kernel) rfl rfl rfl rfl jk0 ?_
    refine ev_mask [true, true, true, true] ?_
    exact t_Law_law_j1745 hG hxs hLs hk18 h
  · replace h := jneg c352 h
    refine ev_seg (o := 11) (nL := 4) (q := 1745) (xs := [(.iconst 1, 1, 0, 0, .int 1), (.goto 4, 3, 0, 0, .null)]) (L' := [some (.ref 0), some (.ref 2), some (.ref 93), some (.int x3)]) (st' := [.int 1, .int (xs (Int32.toNatClampNeg (x3 + 3))), .int (xs (Int32.toNatClampNeg (x3 + 2))), .int (xs (Int32.toNatClampNeg (x3 + 1))), .ref 93, .long q345.1]) (w' := q345.2) (g := []) (K := []) (by decide +kernel) rfl rfl rfl rfl jk0 ?_
    refine ev_mask [true, true, true, true] ?_
    exact t_Law_law_j1745 hG hxs hLs hk18 h
def f_Law_law_h18 (xs : Nat → Int32) (Ls : Nat) : Nat → Int32 → jW → Option (Int32 × jW)
  | 0, _, _ => none
  | n + 1, x3, w =>
  if x3 ≤ ((Int32.ofNat Ls) - 8) then
    if jin x3 Ls = true then
    if ((xs (Int32.toNatClampNeg x3)) &&& 63) = 0 then
      if jin (x3 + 1) Ls = true then
      if jin (x3 + 2) Ls = true then
      if jin (x3 + 3) Ls = true then
      if (xs (Int32.toNatClampNeg (x3 + 3))) = 0 then
        f_Law_law_j252 xs Ls (f_Law_law_h18 xs Ls n) x3 0 (xs (Int32.toNatClampNeg (x3 + 2))) (xs (Int32.toNatClampNeg (x3 + 1))) w
      else
        f_Law_law_j252 xs Ls (f_Law_law_h18 xs Ls n) x3 1 (xs (Int32.toNatClampNeg (x3 + 2))) (xs (Int32.toNatClampNeg (x3 + 1))) w
      else none else none else none
    else
    if ((xs (Int32.toNatClampNeg x3)) &&& 63) = 1 then
      if jin (x3 + 1) Ls = true then
      if jin (x3 + 2) Ls = true then
      if jin (x3 + 3) Ls = true then
      Option.bind (f_Count_road (xs (Int32.toNatClampNeg (x3 + 1))) (xs (Int32.toNatClampNeg (x3 + 2))) (xs (Int32.toNatClampNeg (x3 + 3))) w) fun q22 =>
      if jin (x3 + 1) Ls = true then
      if jin (x3 + 2) Ls = true then
      if jin (x3 + 3) Ls = true then
      Option.bind (f_Model_road (xs (Int32.toNatClampNeg (x3 + 1))) (xs (Int32.toNatClampNeg (x3 + 2))) (xs (Int32.toNatClampNeg (x3 + 3))) q22.2) fun q26 =>
      if q22.1 = q26.1 then
        (f_Law_law_h18 xs Ls n) (x3 + 8) q26.2
      else
        some (0, q26.2)
      else none else none else none
      else none else none else none
    else
    if ((xs (Int32.toNatClampNeg x3)) &&& 63) = 2 then
      if jin (x3 + 1) Ls = true then
      if jin (x3 + 2) Ls = true then
      Option.bind (f_Count_way (xs (Int32.toNatClampNeg (x3 + 1))) (xs (Int32.toNatClampNeg (x3 + 2))) w) fun q31 =>
      if jin (x3 + 1) Ls = true then
      if jin (x3 + 2) Ls = true then
      Option.bind (f_Model_way (xs (Int32.toNatClampNeg (x3 + 1))) (xs (Int32.toNatClampNeg (x3 + 2))) q31.2) fun q34 =>
      if q31.1 = q34.1 then
        (f_Law_law_h18 xs Ls n) (x3 + 8) q34.2
      else
        some (0, q34.2)
      else none else none
      else none else none
    else
    if ((xs (Int32.toNatClampNeg x3)) &&& 63) = 3 then
      if jin (x3 + 1) Ls = true then
      if jin (x3 + 2) Ls = true then
      if jin (x3 + 3) Ls = true then
      if jin (x3 + 4) Ls = true then
      if jin (x3 + 5) Ls = true then
      Option.bind (f_Count_sort (xs (Int32.toNatClampNeg (x3 + 1))) (xs (Int32.toNatClampNeg (x3 + 2))) (xs (Int32.toNatClampNeg (x3 + 3))) (xs (Int32.toNatClampNeg (x3 + 4))) (xs (Int32.toNatClampNeg (x3 + 5))) w) fun q42 =>
      if jin (x3 + 1) Ls = true then
      if jin (x3 + 2) Ls = true then
      if jin (x3 + 3) Ls = true then
      if jin (x3 + 4) Ls = true then
      if jin (x3 + 5) Ls = true then
      Option.bind (f_Model_sort (xs (Int32.toNatClampNeg (x3 + 1))) (xs (Int32.toNatClampNeg (x3 + 2))) (xs (Int32.toNatClampNeg (x3 + 3))) (xs (Int32.toNatClampNeg (x3 + 4))) (xs (Int32.toNatClampNeg (x3 + 5))) q42.2) fun q48 =>
      if q42.1 = q48.1 then
        (f_Law_law_h18 xs Ls n) (x3 + 8) q48.2
      else
        some (0, q48.2)
      else none else none else none else none else none
      else none else none else none else none else none
    else
    if ((xs (Int32.toNatClampNeg x3)) &&& 63) = 4 then
      if jin (x3 + 1) Ls = true then
      if jin (x3 + 2) Ls = true then
      if jin (x3 + 3) Ls = true then
      Option.bind (f_Count_rules (xs (Int32.toNatClampNeg (x3 + 1))) (xs (Int32.toNatClampNeg (x3 + 2))) (xs (Int32.toNatClampNeg (x3 + 3))) w) fun q54 =>
      if jin (x3 + 1) Ls = true then
      if jin (x3 + 2) Ls = true then
      if jin (x3 + 3) Ls = true then
      Option.bind (f_Model_rules (xs (Int32.toNatClampNeg (x3 + 1))) (xs (Int32.toNatClampNeg (x3 + 2))) (xs (Int32.toNatClampNeg (x3 + 3))) q54.2) fun q58 =>
      if q54.1 = q58.1 then
        (f_Law_law_h18 xs Ls n) (x3 + 8) q58.2
      else
        some (0, q58.2)
      else none else none else none
      else none else none else none
    else
    if ((xs (Int32.toNatClampNeg x3)) &&& 63) = 5 then
      if jin (x3 + 1) Ls = true then
      if jin (x3 + 2) Ls = true then
      if jin (x3 + 3) Ls = true then
      if jin (x3 + 4) Ls = true then
      Option.bind (f_Count_make (xs (Int32.toNatClampNeg (x3 + 1))) (xs (Int32.toNatClampNeg (x3 + 2))) (xs (Int32.toNatClampNeg (x3 + 3))) (xs (Int32.toNatClampNeg (x3 + 4))) w) fun q65 =>
      if jin (x3 + 1) Ls = true then
      if jin (x3 + 2) Ls = true then
      if jin (x3 + 3) Ls = true then
      if jin (x3 + 4) Ls = true then
      Option.bind (f_Model_make (xs (Int32.toNatClampNeg (x3 + 1))) (xs (Int32.toNatClampNeg (x3 + 2))) (xs (Int32.toNatClampNeg (x3 + 3))) (xs (Int32.toNatClampNeg (x3 + 4))) q65.2) fun q70 =>
      if q65.1 = q70.1 then
        (f_Law_law_h18 xs Ls n) (x3 + 8) q70.2
      else
        some (0, q70.2)
      else none else none else none else none
      else none else none else none else none
    else
    if ((xs (Int32.toNatClampNeg x3)) &&& 63) = 6 then
      if jin (x3 + 1) Ls = true then
      if jin (x3 + 2) Ls = true then
      Option.bind (f_Count_move (xs (Int32.toNatClampNeg (x3 + 1))) (xs (Int32.toNatClampNeg (x3 + 2))) w) fun q75 =>
      if jin (x3 + 1) Ls = true then
      if jin (x3 + 2) Ls = true then
      Option.bind (f_Model_move (xs (Int32.toNatClampNeg (x3 + 1))) (xs (Int32.toNatClampNeg (x3 + 2))) q75.2) fun q78 =>
      if q75.1 = q78.1 then
        (f_Law_law_h18 xs Ls n) (x3 + 8) q78.2
      else
        some (0, q78.2)
      else none else none
      else none else none
    else
    if ((xs (Int32.toNatClampNeg x3)) &&& 63) = 7 then
      if jin (x3 + 1) Ls = true then
      Option.bind (f_Count_step (xs (Int32.toNatClampNeg (x3 + 1))) w) fun q82 =>
      if jin (x3 + 1) Ls = true then
      Option.bind (f_Model_step (xs (Int32.toNatClampNeg (x3 + 1))) q82.2) fun q84 =>
      if q82.1 = q84.1 then
        (f_Law_law_h18 xs Ls n) (x3 + 8) q84.2
      else
        some (0, q84.2)
      else none
      else none
    else
    if ((xs (Int32.toNatClampNeg x3)) &&& 63) = 8 then
      if jin (x3 + 1) Ls = true then
      Option.bind (f_Count_seal (xs (Int32.toNatClampNeg (x3 + 1))) w) fun q88 =>
      if jin (x3 + 1) Ls = true then
      Option.bind (f_Model_seal (xs (Int32.toNatClampNeg (x3 + 1))) q88.2) fun q90 =>
      if q88.1 = q90.1 then
        (f_Law_law_h18 xs Ls n) (x3 + 8) q90.2
      else
        some (0, q90.2)
      else none
      else none
    else
    if ((xs (Int32.toNatClampNeg x3)) &&& 63) = 9 then
      if jin (x3 + 1) Ls = true then
      Option.bind (f_Count_days (xs (Int32.toNatClampNeg (x3 + 1))) w) fun q94 =>
      if jin (x3 + 1) Ls = true then
      Option.bind (f_Model_days (xs (Int32.toNatClampNeg (x3 + 1))) q94.2) fun q96 =>
      if q94.1 = q96.1 then
        (f_Law_law_h18 xs Ls n) (x3 + 8) q96.2
      else
        some (0, q96.2)
      else none
      else none
    else
    if ((xs (Int32.toNatClampNeg x3)) &&& 63) = 10 then
      if jin (x3 + 1) Ls = true then
      if jin (x3 + 2) Ls = true then
      Option.bind (f_Count_where (xs (Int32.toNatClampNeg (x3 + 1))) (xs (Int32.toNatClampNeg (x3 + 2))) w) fun q101 =>
      if jin (x3 + 1) Ls = true then
      if jin (x3 + 2) Ls = true then
      Option.bind (f_Model_where (xs (Int32.toNatClampNeg (x3 + 1))) (xs (Int32.toNatClampNeg (x3 + 2))) q101.2) fun q104 =>
      if q101.1 = q104.1 then
        (f_Law_law_h18 xs Ls n) (x3 + 8) q104.2
      else
        some (0, q104.2)
      else none else none
      else none else none
    else
    if ((xs (Int32.toNatClampNeg x3)) &&& 63) = 11 then
      if jin (x3 + 1) Ls = true then
      if jin (x3 + 2) Ls = true then
      Option.bind (f_Count_thing (xs (Int32.toNatClampNeg (x3 + 1))) (xs (Int32.toNatClampNeg (x3 + 2))) w) fun q109 =>
      if jin (x3 + 1) Ls = true then
      if jin (x3 + 2) Ls = true then
      Option.bind (f_Model_thing (xs (Int32.toNatClampNeg (x3 + 1))) (xs (Int32.toNatClampNeg (x3 + 2))) q109.2) fun q112 =>
      if q109.1 = q112.1 then
        (f_Law_law_h18 xs Ls n) (x3 + 8) q112.2
      else
        some (0, q112.2)
      else none else none
      else none else none
    else
    if ((xs (Int32.toNatClampNeg x3)) &&& 63) = 12 then
      if jin (x3 + 1) Ls = true then
      if jin (x3 + 2) Ls = true then
      Option.bind (f_Count_whole (xs (Int32.toNatClampNeg (x3 + 1))) (xs (Int32.toNatClampNeg (x3 + 2))) w) fun q117 =>
      if jin (x3 + 1) Ls = true then
      if jin (x3 + 2) Ls = true then
      Option.bind (f_Model_whole0 (xs (Int32.toNatClampNeg (x3 + 1))) (xs (Int32.toNatClampNeg (x3 + 2))) q117.2) fun q120 =>
      if q117.1 = q120.1 then
        (f_Law_law_h18 xs Ls n) (x3 + 8) q120.2
      else
        some (0, q120.2)
      else none else none
      else none else none
    else
    if ((xs (Int32.toNatClampNeg x3)) &&& 63) = 13 then
      if jin (x3 + 1) Ls = true then
      if jin (x3 + 2) Ls = true then
      if jin (x3 + 3) Ls = true then
      if jin (x3 + 4) Ls = true then
      if jin (x3 + 5) Ls = true then
      Option.bind (f_Count_feed (xs (Int32.toNatClampNeg (x3 + 1))) (xs (Int32.toNatClampNeg (x3 + 2))) (xs (Int32.toNatClampNeg (x3 + 3))) (xs (Int32.toNatClampNeg (x3 + 4))) (xs (Int32.toNatClampNeg (x3 + 5))) w) fun q128 =>
      if jin (x3 + 1) Ls = true then
      if jin (x3 + 2) Ls = true then
      if jin (x3 + 3) Ls = true then
      if jin (x3 + 4) Ls = true then
      if jin (x3 + 5) Ls = true then
      Option.bind (f_Model_feed (xs (Int32.toNatClampNeg (x3 + 1))) (xs (Int32.toNatClampNeg (x3 + 2))) (xs (Int32.toNatClampNeg (x3 + 3))) (xs (Int32.toNatClampNeg (x3 + 4))) (xs (Int32.toNatClampNeg (x3 + 5))) q128.2) fun q134 =>
      if q128.1 = q134.1 then
        (f_Law_law_h18 xs Ls n) (x3 + 8) q134.2
      else
        some (0, q134.2)
      else none else none else none else none else none
      else none else none else none else none else none
    else
    if ((xs (Int32.toNatClampNeg x3)) &&& 63) = 14 then
      if jin (x3 + 1) Ls = true then
      Option.bind (f_Count_end (xs (Int32.toNatClampNeg (x3 + 1))) w) fun q138 =>
      if jin (x3 + 1) Ls = true then
      Option.bind (f_Model_end (xs (Int32.toNatClampNeg (x3 + 1))) q138.2) fun q140 =>
      if q138.1 = q140.1 then
        (f_Law_law_h18 xs Ls n) (x3 + 8) q140.2
      else
        some (0, q140.2)
      else none
      else none
    else
    if ((xs (Int32.toNatClampNeg x3)) &&& 63) = 15 then
      if jin (x3 + 1) Ls = true then
      Option.bind (f_Count_text (xs (Int32.toNatClampNeg (x3 + 1))) w) fun q144 =>
      if jin (x3 + 1) Ls = true then
      Option.bind (f_Model_text (xs (Int32.toNatClampNeg (x3 + 1))) q144.2) fun q146 =>
      if q144.1 = q146.1 then
        (f_Law_law_h18 xs Ls n) (x3 + 8) q146.2
      else
        some (0, q146.2)
      else none
      else none
    else
    if ((xs (Int32.toNatClampNeg x3)) &&& 63) = 16 then
      if jin (x3 + 1) Ls = true then
      Option.bind (f_Count_fault (xs (Int32.toNatClampNeg (x3 + 1))) w) fun q150 =>
      if jin (x3 + 1) Ls = true then
      Option.bind (f_Model_fault (xs (Int32.toNatClampNeg (x3 + 1))) q150.2) fun q152 =>
      if q150.1 = q152.1 then
        (f_Law_law_h18 xs Ls n) (x3 + 8) q152.2
      else
        some (0, q152.2)
      else none
      else none
    else
    if ((xs (Int32.toNatClampNeg x3)) &&& 63) = 17 then
      if jin (x3 + 1) Ls = true then
      if jin (x3 + 2) Ls = true then
      Option.bind (f_Count_says (xs (Int32.toNatClampNeg (x3 + 1))) (xs (Int32.toNatClampNeg (x3 + 2))) w) fun q157 =>
      if jin (x3 + 1) Ls = true then
      if jin (x3 + 2) Ls = true then
      Option.bind (f_Model_says (xs (Int32.toNatClampNeg (x3 + 1))) (xs (Int32.toNatClampNeg (x3 + 2))) q157.2) fun q160 =>
      if q157.1 = q160.1 then
        (f_Law_law_h18 xs Ls n) (x3 + 8) q160.2
      else
        some (0, q160.2)
      else none else none
      else none else none
    else
    if ((xs (Int32.toNatClampNeg x3)) &&& 63) = 18 then
      if jin (x3 + 1) Ls = true then
      if jin (x3 + 2) Ls = true then
      if jin (x3 + 3) Ls = true then
      Option.bind (f_Count_counts (xs (Int32.toNatClampNeg (x3 + 1))) (xs (Int32.toNatClampNeg (x3 + 2))) (xs (Int32.toNatClampNeg (x3 + 3))) w) fun q166 =>
      if jin (x3 + 1) Ls = true then
      if jin (x3 + 2) Ls = true then
      if jin (x3 + 3) Ls = true then
      Option.bind (f_Model_counts (xs (Int32.toNatClampNeg (x3 + 1))) (xs (Int32.toNatClampNeg (x3 + 2))) (xs (Int32.toNatClampNeg (x3 + 3))) q166.2) fun q170 =>
      if q166.1 = q170.1 then
        (f_Law_law_h18 xs Ls n) (x3 + 8) q170.2
      else
        some (0, q170.2)
      else none else none else none
      else none else none else none
    else
    if ((xs (Int32.toNatClampNeg x3)) &&& 63) = 19 then
      if jin (x3 + 1) Ls = true then
      if jin (x3 + 2) Ls = true then
      Option.bind (f_Count_counted (xs (Int32.toNatClampNeg (x3 + 1))) (xs (Int32.toNatClampNeg (x3 + 2))) w) fun q175 =>
      if jin (x3 + 1) Ls = true then
      if jin (x3 + 2) Ls = true then
      Option.bind (f_Model_counted (xs (Int32.toNatClampNeg (x3 + 1))) (xs (Int32.toNatClampNeg (x3 + 2))) q175.2) fun q178 =>
      if q175.1 = q178.1 then
        (f_Law_law_h18 xs Ls n) (x3 + 8) q178.2
      else
        some (0, q178.2)
      else none else none
      else none else none
    else
    if ((xs (Int32.toNatClampNeg x3)) &&& 63) = 20 then
      if jin (x3 + 1) Ls = true then
      if jin (x3 + 2) Ls = true then
      if jin (x3 + 3) Ls = true then
      Option.bind (f_Count_tell (xs (Int32.toNatClampNeg (x3 + 1))) (xs (Int32.toNatClampNeg (x3 + 2))) (xs (Int32.toNatClampNeg (x3 + 3))) w) fun q184 =>
      if jin (x3 + 1) Ls = true then
      if jin (x3 + 2) Ls = true then
      if jin (x3 + 3) Ls = true then
      Option.bind (f_Model_tell (xs (Int32.toNatClampNeg (x3 + 1))) (xs (Int32.toNatClampNeg (x3 + 2))) (xs (Int32.toNatClampNeg (x3 + 3))) q184.2) fun q188 =>
      if q184.1 = q188.1 then
        (f_Law_law_h18 xs Ls n) (x3 + 8) q188.2
      else
        some (0, q188.2)
      else none else none else none
      else none else none else none
    else
    if ((xs (Int32.toNatClampNeg x3)) &&& 63) = 21 then
      if jin (x3 + 1) Ls = true then
      if jin (x3 + 2) Ls = true then
      if jin (x3 + 3) Ls = true then
      Option.bind (f_Count_told (xs (Int32.toNatClampNeg (x3 + 1))) (xs (Int32.toNatClampNeg (x3 + 2))) (xs (Int32.toNatClampNeg (x3 + 3))) w) fun q194 =>
      if jin (x3 + 1) Ls = true then
      if jin (x3 + 2) Ls = true then
      if jin (x3 + 3) Ls = true then
      Option.bind (f_Model_told (xs (Int32.toNatClampNeg (x3 + 1))) (xs (Int32.toNatClampNeg (x3 + 2))) (xs (Int32.toNatClampNeg (x3 + 3))) q194.2) fun q198 =>
      if q194.1 = q198.1 then
        (f_Law_law_h18 xs Ls n) (x3 + 8) q198.2
      else
        some (0, q198.2)
      else none else none else none
      else none else none else none
    else
    if ((xs (Int32.toNatClampNeg x3)) &&& 63) = 22 then
      if jin (x3 + 1) Ls = true then
      if jin (x3 + 2) Ls = true then
      if jin (x3 + 3) Ls = true then
      if jin (x3 + 4) Ls = true then
      Option.bind (f_Count_toldAt (xs (Int32.toNatClampNeg (x3 + 1))) (xs (Int32.toNatClampNeg (x3 + 2))) (xs (Int32.toNatClampNeg (x3 + 3))) (xs (Int32.toNatClampNeg (x3 + 4))) w) fun q205 =>
      if jin (x3 + 1) Ls = true then
      if jin (x3 + 2) Ls = true then
      if jin (x3 + 3) Ls = true then
      if jin (x3 + 4) Ls = true then
      Option.bind (f_Model_toldAt (xs (Int32.toNatClampNeg (x3 + 1))) (xs (Int32.toNatClampNeg (x3 + 2))) (xs (Int32.toNatClampNeg (x3 + 3))) (xs (Int32.toNatClampNeg (x3 + 4))) q205.2) fun q210 =>
      if q205.1 = q210.1 then
        (f_Law_law_h18 xs Ls n) (x3 + 8) q210.2
      else
        some (0, q210.2)
      else none else none else none else none
      else none else none else none else none
    else
    if ((xs (Int32.toNatClampNeg x3)) &&& 63) = 23 then
      if jin (x3 + 1) Ls = true then
      if jin (x3 + 2) Ls = true then
      Option.bind (f_Count_visit (xs (Int32.toNatClampNeg (x3 + 1))) (xs (Int32.toNatClampNeg (x3 + 2))) w) fun q215 =>
      if jin (x3 + 1) Ls = true then
      if jin (x3 + 2) Ls = true then
      Option.bind (f_Model_visit (xs (Int32.toNatClampNeg (x3 + 1))) (xs (Int32.toNatClampNeg (x3 + 2))) q215.2) fun q218 =>
      if q215.1 = q218.1 then
        (f_Law_law_h18 xs Ls n) (x3 + 8) q218.2
      else
        some (0, q218.2)
      else none else none
      else none else none
    else
    if ((xs (Int32.toNatClampNeg x3)) &&& 63) = 24 then
      if jin (x3 + 1) Ls = true then
      if jin (x3 + 2) Ls = true then
      Option.bind (f_Count_saw (xs (Int32.toNatClampNeg (x3 + 1))) (xs (Int32.toNatClampNeg (x3 + 2))) w) fun q223 =>
      if jin (x3 + 1) Ls = true then
      if jin (x3 + 2) Ls = true then
      Option.bind (f_Model_saw (xs (Int32.toNatClampNeg (x3 + 1))) (xs (Int32.toNatClampNeg (x3 + 2))) q223.2) fun q226 =>
      if q223.1 = q226.1 then
        (f_Law_law_h18 xs Ls n) (x3 + 8) q226.2
      else
        some (0, q226.2)
      else none else none
      else none else none
    else
    if ((xs (Int32.toNatClampNeg x3)) &&& 63) = 25 then
      if jin (x3 + 1) Ls = true then
      if jin (x3 + 2) Ls = true then
      Option.bind (f_Count_cloud (xs (Int32.toNatClampNeg (x3 + 1))) (xs (Int32.toNatClampNeg (x3 + 2))) w) fun q231 =>
      if jin (x3 + 1) Ls = true then
      if jin (x3 + 2) Ls = true then
      Option.bind (f_Model_cloud (xs (Int32.toNatClampNeg (x3 + 1))) (xs (Int32.toNatClampNeg (x3 + 2))) q231.2) fun q234 =>
      if q231.1 = q234.1 then
        (f_Law_law_h18 xs Ls n) (x3 + 8) q234.2
      else
        some (0, q234.2)
      else none else none
      else none else none
    else
    if ((xs (Int32.toNatClampNeg x3)) &&& 63) = 26 then
      if jin (x3 + 1) Ls = true then
      Option.bind (f_Count_picture (xs (Int32.toNatClampNeg (x3 + 1))) w) fun q238 =>
      if jin (x3 + 1) Ls = true then
      Option.bind (f_Model_picture (xs (Int32.toNatClampNeg (x3 + 1))) q238.2) fun q240 =>
      if q238.1 = q240.1 then
        (f_Law_law_h18 xs Ls n) (x3 + 8) q240.2
      else
        some (0, q240.2)
      else none
      else none
    else
    if ((xs (Int32.toNatClampNeg x3)) &&& 63) = 27 then
      if jin (x3 + 1) Ls = true then
      if jin (x3 + 2) Ls = true then
      if jin (x3 + 3) Ls = true then
      if jin (x3 + 4) Ls = true then
      if jin (x3 + 5) Ls = true then
      if (xs (Int32.toNatClampNeg (x3 + 5))) = 0 then
        f_Law_law_j1285 xs Ls (f_Law_law_h18 xs Ls n) x3 0 (xs (Int32.toNatClampNeg (x3 + 4))) (xs (Int32.toNatClampNeg (x3 + 3))) (xs (Int32.toNatClampNeg (x3 + 2))) (xs (Int32.toNatClampNeg (x3 + 1))) w
      else
        f_Law_law_j1285 xs Ls (f_Law_law_h18 xs Ls n) x3 1 (xs (Int32.toNatClampNeg (x3 + 4))) (xs (Int32.toNatClampNeg (x3 + 3))) (xs (Int32.toNatClampNeg (x3 + 2))) (xs (Int32.toNatClampNeg (x3 + 1))) w
      else none else none else none else none else none
    else
    if ((xs (Int32.toNatClampNeg x3)) &&& 63) = 28 then
      if jin (x3 + 1) Ls = true then
      if jin (x3 + 2) Ls = true then
      if jin (x3 + 3) Ls = true then
      if jin (x3 + 4) Ls = true then
      Option.bind (f_Count_doubted (xs (Int32.toNatClampNeg (x3 + 1))) (xs (Int32.toNatClampNeg (x3 + 2))) (xs (Int32.toNatClampNeg (x3 + 3))) (xs (Int32.toNatClampNeg (x3 + 4))) w) fun q263 =>
      if jin (x3 + 1) Ls = true then
      if jin (x3 + 2) Ls = true then
      if jin (x3 + 3) Ls = true then
      if jin (x3 + 4) Ls = true then
      Option.bind (f_Model_doubted (xs (Int32.toNatClampNeg (x3 + 1))) (xs (Int32.toNatClampNeg (x3 + 2))) (xs (Int32.toNatClampNeg (x3 + 3))) (xs (Int32.toNatClampNeg (x3 + 4))) q263.2) fun q268 =>
      if q263.1 = q268.1 then
        (f_Law_law_h18 xs Ls n) (x3 + 8) q268.2
      else
        some (0, q268.2)
      else none else none else none else none
      else none else none else none else none
    else
    if ((xs (Int32.toNatClampNeg x3)) &&& 63) = 29 then
      if jin (x3 + 1) Ls = true then
      if jin (x3 + 2) Ls = true then
      if jin (x3 + 3) Ls = true then
      Option.bind (f_Count_doubt (xs (Int32.toNatClampNeg (x3 + 1))) (xs (Int32.toNatClampNeg (x3 + 2))) (xs (Int32.toNatClampNeg (x3 + 3))) w) fun q274 =>
      if jin (x3 + 1) Ls = true then
      if jin (x3 + 2) Ls = true then
      if jin (x3 + 3) Ls = true then
      Option.bind (f_Model_doubt (xs (Int32.toNatClampNeg (x3 + 1))) (xs (Int32.toNatClampNeg (x3 + 2))) (xs (Int32.toNatClampNeg (x3 + 3))) q274.2) fun q278 =>
      if q274.1 = q278.1 then
        (f_Law_law_h18 xs Ls n) (x3 + 8) q278.2
      else
        some (0, q278.2)
      else none else none else none
      else none else none else none
    else
    if ((xs (Int32.toNatClampNeg x3)) &&& 63) = 30 then
      if jin (x3 + 1) Ls = true then
      if jin (x3 + 2) Ls = true then
      Option.bind (f_Count_ask (xs (Int32.toNatClampNeg (x3 + 1))) (xs (Int32.toNatClampNeg (x3 + 2))) w) fun q283 =>
      if jin (x3 + 1) Ls = true then
      if jin (x3 + 2) Ls = true then
      Option.bind (f_Model_ask (xs (Int32.toNatClampNeg (x3 + 1))) (xs (Int32.toNatClampNeg (x3 + 2))) q283.2) fun q286 =>
      if q283.1 = q286.1 then
        (f_Law_law_h18 xs Ls n) (x3 + 8) q286.2
      else
        some (0, q286.2)
      else none else none
      else none else none
    else
    if ((xs (Int32.toNatClampNeg x3)) &&& 63) = 31 then
      if jin (x3 + 1) Ls = true then
      Option.bind (f_Count_answer (xs (Int32.toNatClampNeg (x3 + 1))) w) fun q290 =>
      if jin (x3 + 1) Ls = true then
      Option.bind (f_Model_answer (xs (Int32.toNatClampNeg (x3 + 1))) q290.2) fun q292 =>
      if q290.1 = q292.1 then
        (f_Law_law_h18 xs Ls n) (x3 + 8) q292.2
      else
        some (0, q292.2)
      else none
      else none
    else
    if ((xs (Int32.toNatClampNeg x3)) &&& 63) = 32 then
      if jin (x3 + 1) Ls = true then
      if jin (x3 + 2) Ls = true then
      Option.bind (f_Count_act (xs (Int32.toNatClampNeg (x3 + 1))) (xs (Int32.toNatClampNeg (x3 + 2))) w) fun q297 =>
      if jin (x3 + 1) Ls = true then
      if jin (x3 + 2) Ls = true then
      Option.bind (f_Model_act (xs (Int32.toNatClampNeg (x3 + 1))) (xs (Int32.toNatClampNeg (x3 + 2))) q297.2) fun q300 =>
      if q297.1 = q300.1 then
        (f_Law_law_h18 xs Ls n) (x3 + 8) q300.2
      else
        some (0, q300.2)
      else none else none
      else none else none
    else
    if ((xs (Int32.toNatClampNeg x3)) &&& 63) = 33 then
      if jin (x3 + 1) Ls = true then
      if jin (x3 + 2) Ls = true then
      Option.bind (f_Count_judged (xs (Int32.toNatClampNeg (x3 + 1))) (xs (Int32.toNatClampNeg (x3 + 2))) w) fun q305 =>
      if jin (x3 + 1) Ls = true then
      if jin (x3 + 2) Ls = true then
      Option.bind (f_Model_judged (xs (Int32.toNatClampNeg (x3 + 1))) (xs (Int32.toNatClampNeg (x3 + 2))) q305.2) fun q308 =>
      if q305.1 = q308.1 then
        (f_Law_law_h18 xs Ls n) (x3 + 8) q308.2
      else
        some (0, q308.2)
      else none else none
      else none else none
    else
    if ((xs (Int32.toNatClampNeg x3)) &&& 63) = 34 then
      if jin (x3 + 1) Ls = true then
      if jin (x3 + 2) Ls = true then
      if jin (x3 + 3) Ls = true then
      Option.bind (f_Count_fails (xs (Int32.toNatClampNeg (x3 + 1))) (xs (Int32.toNatClampNeg (x3 + 2))) (xs (Int32.toNatClampNeg (x3 + 3))) w) fun q314 =>
      if jin (x3 + 1) Ls = true then
      if jin (x3 + 2) Ls = true then
      if jin (x3 + 3) Ls = true then
      Option.bind (f_Model_fails (xs (Int32.toNatClampNeg (x3 + 1))) (xs (Int32.toNatClampNeg (x3 + 2))) (xs (Int32.toNatClampNeg (x3 + 3))) q314.2) fun q318 =>
      if q314.1 = q318.1 then
        (f_Law_law_h18 xs Ls n) (x3 + 8) q318.2
      else
        some (0, q318.2)
      else none else none else none
      else none else none else none
    else
    if ((xs (Int32.toNatClampNeg x3)) &&& 63) = 35 then
      if jin (x3 + 1) Ls = true then
      if jin (x3 + 2) Ls = true then
      Option.bind (f_Count_chance (xs (Int32.toNatClampNeg (x3 + 1))) (xs (Int32.toNatClampNeg (x3 + 2))) w) fun q323 =>
      if jin (x3 + 1) Ls = true then
      if jin (x3 + 2) Ls = true then
      Option.bind (f_Model_chance (xs (Int32.toNatClampNeg (x3 + 1))) (xs (Int32.toNatClampNeg (x3 + 2))) q323.2) fun q326 =>
      if q323.1 = q326.1 then
        (f_Law_law_h18 xs Ls n) (x3 + 8) q326.2
      else
        some (0, q326.2)
      else none else none
      else none else none
    else
    if ((xs (Int32.toNatClampNeg x3)) &&& 63) = 36 then
      if jin (x3 + 1) Ls = true then
      if jin (x3 + 2) Ls = true then
      if jin (x3 + 3) Ls = true then
      if (xs (Int32.toNatClampNeg (x3 + 3))) = 0 then
        f_Law_law_j1648 xs Ls (f_Law_law_h18 xs Ls n) x3 0 (xs (Int32.toNatClampNeg (x3 + 2))) (xs (Int32.toNatClampNeg (x3 + 1))) w
      else
        f_Law_law_j1648 xs Ls (f_Law_law_h18 xs Ls n) x3 1 (xs (Int32.toNatClampNeg (x3 + 2))) (xs (Int32.toNatClampNeg (x3 + 1))) w
      else none else none else none
    else
    if ((xs (Int32.toNatClampNeg x3)) &&& 63) = 37 then
      if jin (x3 + 1) Ls = true then
      if jin (x3 + 2) Ls = true then
      if jin (x3 + 3) Ls = true then
      if jin (x3 + 4) Ls = true then
      if (xs (Int32.toNatClampNeg (x3 + 4))) = 0 then
        f_Law_law_j1713 xs Ls (f_Law_law_h18 xs Ls n) x3 0 (xs (Int32.toNatClampNeg (x3 + 3))) (xs (Int32.toNatClampNeg (x3 + 2))) (xs (Int32.toNatClampNeg (x3 + 1))) w
      else
        f_Law_law_j1713 xs Ls (f_Law_law_h18 xs Ls n) x3 1 (xs (Int32.toNatClampNeg (x3 + 3))) (xs (Int32.toNatClampNeg (x3 + 2))) (xs (Int32.toNatClampNeg (x3 + 1))) w
      else none else none else none else none
    else
    if ((xs (Int32.toNatClampNeg x3)) &&& 63) = 38 then
      if jin (x3 + 1) Ls = true then
      if jin (x3 + 2) Ls = true then
      if jin (x3 + 3) Ls = true then
      if jin (x3 + 4) Ls = true then
      if jin (x3 + 5) Ls = true then
      if jin (x3 + 6) Ls = true then
      if jin (x3 + 7) Ls = true then
      Option.bind (f_Count_proof (xs (Int32.toNatClampNeg (x3 + 1))) (xs (Int32.toNatClampNeg (x3 + 2))) (xs (Int32.toNatClampNeg (x3 + 3))) (xs (Int32.toNatClampNeg (x3 + 4))) (xs (Int32.toNatClampNeg (x3 + 5))) (xs (Int32.toNatClampNeg (x3 + 6))) (xs (Int32.toNatClampNeg (x3 + 7))) w) fun q362 =>
      if jin (x3 + 1) Ls = true then
      if jin (x3 + 2) Ls = true then
      if jin (x3 + 3) Ls = true then
      if jin (x3 + 4) Ls = true then
      if jin (x3 + 5) Ls = true then
      if jin (x3 + 6) Ls = true then
      if jin (x3 + 7) Ls = true then
      Option.bind (f_Model_proof (xs (Int32.toNatClampNeg (x3 + 1))) (xs (Int32.toNatClampNeg (x3 + 2))) (xs (Int32.toNatClampNeg (x3 + 3))) (xs (Int32.toNatClampNeg (x3 + 4))) (xs (Int32.toNatClampNeg (x3 + 5))) (xs (Int32.toNatClampNeg (x3 + 6))) (xs (Int32.toNatClampNeg (x3 + 7))) q362.2) fun q370 =>
      if q362.1 = q370.1 then
        (f_Law_law_h18 xs Ls n) (x3 + 8) q370.2
      else
        some (0, q370.2)
      else none else none else none else none else none else none else none
      else none else none else none else none else none else none else none
    else
    if ((xs (Int32.toNatClampNeg x3)) &&& 63) = 39 then
      if jin (x3 + 1) Ls = true then
      if jin (x3 + 2) Ls = true then
      Option.bind (f_Count_watch (xs (Int32.toNatClampNeg (x3 + 1))) (xs (Int32.toNatClampNeg (x3 + 2))) w) fun q375 =>
      if jin (x3 + 1) Ls = true then
      if jin (x3 + 2) Ls = true then
      Option.bind (f_Model_watch (xs (Int32.toNatClampNeg (x3 + 1))) (xs (Int32.toNatClampNeg (x3 + 2))) q375.2) fun q378 =>
      if q375.1 = q378.1 then
        (f_Law_law_h18 xs Ls n) (x3 + 8) q378.2
      else
        some (0, q378.2)
      else none else none
      else none else none
    else
    if ((xs (Int32.toNatClampNeg x3)) &&& 63) = 40 then
      if jin (x3 + 1) Ls = true then
      if jin (x3 + 2) Ls = true then
      Option.bind (f_Count_unseen (xs (Int32.toNatClampNeg (x3 + 1))) (xs (Int32.toNatClampNeg (x3 + 2))) w) fun q383 =>
      if jin (x3 + 1) Ls = true then
      if jin (x3 + 2) Ls = true then
      Option.bind (f_Model_unseen (xs (Int32.toNatClampNeg (x3 + 1))) (xs (Int32.toNatClampNeg (x3 + 2))) q383.2) fun q386 =>
      if q383.1 = q386.1 then
        (f_Law_law_h18 xs Ls n) (x3 + 8) q386.2
      else
        some (0, q386.2)
      else none else none
      else none else none
    else
    if ((xs (Int32.toNatClampNeg x3)) &&& 63) = 41 then
      if jin (x3 + 1) Ls = true then
      if jin (x3 + 2) Ls = true then
      if jin (x3 + 3) Ls = true then
      if jin (x3 + 4) Ls = true then
      Option.bind (f_Count_trick (xs (Int32.toNatClampNeg (x3 + 1))) (xs (Int32.toNatClampNeg (x3 + 2))) (xs (Int32.toNatClampNeg (x3 + 3))) (xs (Int32.toNatClampNeg (x3 + 4))) w) fun q393 =>
      if jin (x3 + 1) Ls = true then
      if jin (x3 + 2) Ls = true then
      if jin (x3 + 3) Ls = true then
      if jin (x3 + 4) Ls = true then
      Option.bind (f_Model_trick (xs (Int32.toNatClampNeg (x3 + 1))) (xs (Int32.toNatClampNeg (x3 + 2))) (xs (Int32.toNatClampNeg (x3 + 3))) (xs (Int32.toNatClampNeg (x3 + 4))) q393.2) fun q398 =>
      if q393.1 = q398.1 then
        (f_Law_law_h18 xs Ls n) (x3 + 8) q398.2
      else
        some (0, q398.2)
      else none else none else none else none
      else none else none else none else none
    else
    if ((xs (Int32.toNatClampNeg x3)) &&& 63) = 42 then
      Option.bind (f_Count_image w) fun q401 =>
      Option.bind (f_Model_image q401.2) fun q402 =>
      if q401.1 = q402.1 then
        (f_Law_law_h18 xs Ls n) (x3 + 8) q402.2
      else
        some (0, q402.2)
    else
    if ((xs (Int32.toNatClampNeg x3)) &&& 63) = 43 then
      Option.bind (f_Count_back w) fun q405 =>
      Option.bind (f_Model_back q405.2) fun q406 =>
      if q405.1 = q406.1 then
        (f_Law_law_h18 xs Ls n) (x3 + 8) q406.2
      else
        some (0, q406.2)
    else
    if ((xs (Int32.toNatClampNeg x3)) &&& 63) = 44 then
      if jin (x3 + 1) Ls = true then
      Option.bind (f_Count_about (xs (Int32.toNatClampNeg (x3 + 1))) w) fun q410 =>
      if jin (x3 + 1) Ls = true then
      Option.bind (f_Model_about (xs (Int32.toNatClampNeg (x3 + 1))) q410.2) fun q412 =>
      if q410.1 = q412.1 then
        (f_Law_law_h18 xs Ls n) (x3 + 8) q412.2
      else
        some (0, q412.2)
      else none
      else none
    else
      (f_Law_law_h18 xs Ls n) (x3 + 8) w
    else none
  else
    some (1, w)
set_option maxRecDepth 20000 in
set_option maxHeartbeats 40000000 in
theorem t_Law_law_h18 {l : Launch} {G : jG} (hG : jX G) {xs : Nat → Int32} {Ls : Nat} (hxs : True) (hLs : jscr G Ls xs) : ∀ (n : Nat) (x3 : Int32) (w : jW) (z : (Int32 × jW)), f_Law_law_h18 xs Ls n x3 w = some z → Ev l G room_1 y_Law_law (some (.int z.1), jR0, z.2) 600000 7302250 600000 7302250 18 [some (.ref 0), some (.ref 2), some (.ref 93), some (.int x3)] [] jR0 w := by
  intro n
  induction n with
  | zero => intro x3 w z h; simp only [f_Law_law_h18] at h; cases h
  | succ n ih =>
    intro x3 w z h
    rw [f_Law_law_h18] at h
    refine ev_seg (o := 11) (nL := 4) (q := 20) (xs := [(.iload_n 3, 1, 3, 0, .null), (.aload_n 0, 1, 0, 0, .null)]) (L' := [some (.ref 0), some (.ref 2), some (.ref 93), some (.int x3)]) (st' := [.ref 0, .int x3]) (w' := w) (g := []) (K := []) (by decide +kernel) rfl rfl rfl rfl jk0 ?_
    refine ev_salen hLs (by decide +kernel) ?_
    refine ev_seg (o := 11) (nL := 4) (q := 24) (xs := [(.bipush 8, 2, 0, 0, .int 8), (.isub, 1, 0, 0, .null)]) (L' := [some (.ref 0), some (.ref 2), some (.ref 93), some (.int x3)]) (st' := [.int ((Int32.ofNat Ls) - 8), .int x3]) (w' := w) (g := []) (K := []) (by decide +kernel) rfl rfl rfl rfl jk0 ?_
    refine ev_icmp_gt (off := 1991) (tgt := 2015) (by decide +kernel) (by decide) (fun c414 => ?_) (fun c414 => ?_)
    · replace h := jneg c414 h
      refine ev_seg (o := 11) (nL := 4) (q := 2016) (xs := [(.iconst 1, 1, 0, 0, .int 1)]) (L' := [some (.ref 0), some (.ref 2), some (.ref 93), some (.int x3)]) (st' := [.int 1]) (w' := w) (g := []) (K := []) (by decide +kernel) rfl rfl rfl rfl jk0 ?_
      cases h
      exact ev_zret (by decide +kernel) rfl rfl rfl rfl rfl
    · replace h := jpos c414 h
      refine ev_seg (o := 11) (nL := 4) (q := 29) (xs := [(.aload_n 0, 1, 0, 0, .null), (.iload_n 3, 1, 3, 0, .null)]) (L' := [some (.ref 0), some (.ref 2), some (.ref 93), some (.int x3)]) (st' := [.int x3, .ref 0]) (w' := w) (g := []) (K := []) (by decide +kernel) rfl rfl rfl rfl jk0 ?_
      obtain ⟨hg1, h⟩ := jgd h
      refine ev_sld hLs (by decide +kernel) hg1 ?_
      refine ev_seg (o := 11) (nL := 4) (q := 33) (xs := [(.bipush 63, 2, 0, 0, .int 63), (.iand, 1, 0, 0, .null)]) (L' := [some (.ref 0), some (.ref 2), some (.ref 93), some (.int x3)]) (st' := [.int ((xs (Int32.toNatClampNeg x3)) &&& 63)]) (w' := w) (g := []) (K := []) (by decide +kernel) rfl rfl rfl rfl jk0 ?_
      by_cases c2 : ((xs (Int32.toNatClampNeg x3)) &&& 63) = 0
      · replace h := jpos c2 h
        refine ev_tableIn (dflt := 1976) (lo := 0) (hi := 44) (offs := #[195, 280, 323, 356, 419, 462, 515, 548, 571, 594, 617, 650, 683, 716, 779, 802, 825, 848, 881, 924, 957, 1000, 1043, 1096, 1129, 1162, 1195, 1218, 1297, 1350, 1393, 1426, 1449, 1482, 1515, 1558, 1591, 1651, 1721, 1808, 1841, 1874, 1927, 1940, 1953]) (len := 195) (off := 195) (tgt := 228) (by decide +kernel) (by rw [c2]; decide) (by rw [c2]; decide) (by rw [c2]; decide) (by decide) ?_
        refine ev_seg (o := 11) (nL := 4) (q := 233) (xs := [(.aload_n 1, 1, 1, 0, .null), (.aload_n 0, 1, 0, 0, .null), (.iload_n 3, 1, 3, 0, .null), (.iconst 1, 1, 0, 0, .int 1), (.iadd, 1, 0, 0, .null)]) (L' := [some (.ref 0), some (.ref 2), some (.ref 93), some (.int x3)]) (st' := [.int (x3 + 1), .ref 0, .ref 2]) (w' := w) (g := []) (K := []) (by decide +kernel) rfl rfl rfl rfl jk0 ?_
        obtain ⟨hg3, h⟩ := jgd h
        refine ev_sld hLs (by decide +kernel) hg3 ?_
        refine ev_seg (o := 11) (nL := 4) (q := 238) (xs := [(.aload_n 0, 1, 0, 0, .null), (.iload_n 3, 1, 3, 0, .null), (.iconst 2, 1, 0, 0, .int 2), (.iadd, 1, 0, 0, .null)]) (L' := [some (.ref 0), some (.ref 2), some (.ref 93), some (.int x3)]) (st' := [.int (x3 + 2), .ref 0, .int (xs (Int32.toNatClampNeg (x3 + 1))), .ref 2]) (w' := w) (g := []) (K := []) (by decide +kernel) rfl rfl rfl rfl jk0 ?_
        obtain ⟨hg4, h⟩ := jgd h
        refine ev_sld hLs (by decide +kernel) hg4 ?_
        refine ev_seg (o := 11) (nL := 4) (q := 243) (xs := [(.aload_n 0, 1, 0, 0, .null), (.iload_n 3, 1, 3, 0, .null), (.iconst 3, 1, 0, 0, .int 3), (.iadd, 1, 0, 0, .null)]) (L' := [some (.ref 0), some (.ref 2), some (.ref 93), some (.int x3)]) (st' := [.int (x3 + 3), .ref 0, .int (xs (Int32.toNatClampNeg (x3 + 2))), .int (xs (Int32.toNatClampNeg (x3 + 1))), .ref 2]) (w' := w) (g := []) (K := []) (by decide +kernel) rfl rfl rfl rfl jk0 ?_
        obtain ⟨hg5, h⟩ := jgd h
        refine ev_sld hLs (by decide +kernel) hg5 ?_
        refine ev_if_eq (off := 7) (tgt := 251) (by decide +kernel) (by decide) (fun c17 => ?_) (fun c17 => ?_)
        · replace h := jpos c17 h
          refine ev_seg (o := 11) (nL := 4) (q := 252) (xs := [(.iconst 0, 1, 0, 0, .int 0)]) (L' := [some (.ref 0), some (.ref 2), some (.ref 93), some (.int x3)]) (st' := [.int 0, .int (xs (Int32.toNatClampNeg (x3 + 2))), .int (xs (Int32.toNatClampNeg (x3 + 1))), .ref 2]) (w' := w) (g := []) (K := []) (by decide +kernel) rfl rfl rfl rfl jk0 ?_
          refine ev_mask [true, true, true, true] ?_
          exact t_Law_law_j252 hG hxs hLs ih h
        · replace h := jneg c17 h
          refine ev_seg (o := 11) (nL := 4) (q := 252) (xs := [(.iconst 1, 1, 0, 0, .int 1), (.goto 4, 3, 0, 0, .null)]) (L' := [some (.ref 0), some (.ref 2), some (.ref 93), some (.int x3)]) (st' := [.int 1, .int (xs (Int32.toNatClampNeg (x3 + 2))), .int (xs (Int32.toNatClampNeg (x3 + 1))), .ref 2]) (w' := w) (g := []) (K := []) (by decide +kernel) rfl rfl rfl rfl jk0 ?_
          refine ev_mask [true, true, true, true] ?_
          exact t_Law_law_j252 hG hxs hLs ih h
      · replace h := jneg c2 h
        by_cases c18 : ((xs (Int32.toNatClampNeg x3)) &&& 63) = 1
        · replace h := jpos c18 h
          refine ev_tableIn (dflt := 1976) (lo := 0) (hi := 44) (offs := #[195, 280, 323, 356, 419, 462, 515, 548, 571, 594, 617, 650, 683, 716, 779, 802, 825, 848, 881, 924, 957, 1000, 1043, 1096, 1129, 1162, 1195, 1218, 1297, 1350, 1393, 1426, 1449, 1482, 1515, 1558, 1591, 1651, 1721, 1808, 1841, 1874, 1927, 1940, 1953]) (len := 195) (off := 280) (tgt := 313) (by decide +kernel) (by rw [c18]; decide) (by rw [c18]; decide) (by rw [c18]; decide) (by decide) ?_
          refine ev_seg (o := 11) (nL := 4) (q := 318) (xs := [(.aload_n 1, 1, 1, 0, .null), (.aload_n 0, 1, 0, 0, .null), (.iload_n 3, 1, 3, 0, .null), (.iconst 1, 1, 0, 0, .int 1), (.iadd, 1, 0, 0, .null)]) (L' := [some (.ref 0), some (.ref 2), some (.ref 93), some (.int x3)]) (st' := [.int (x3 + 1), .ref 0, .ref 2]) (w' := w) (g := []) (K := []) (by decide +kernel) rfl rfl rfl rfl jk0 ?_
          obtain ⟨hg19, h⟩ := jgd h
          refine ev_sld hLs (by decide +kernel) hg19 ?_
          refine ev_seg (o := 11) (nL := 4) (q := 323) (xs := [(.aload_n 0, 1, 0, 0, .null), (.iload_n 3, 1, 3, 0, .null), (.iconst 2, 1, 0, 0, .int 2), (.iadd, 1, 0, 0, .null)]) (L' := [some (.ref 0), some (.ref 2), some (.ref 93), some (.int x3)]) (st' := [.int (x3 + 2), .ref 0, .int (xs (Int32.toNatClampNeg (x3 + 1))), .ref 2]) (w' := w) (g := []) (K := []) (by decide +kernel) rfl rfl rfl rfl jk0 ?_
          obtain ⟨hg20, h⟩ := jgd h
          refine ev_sld hLs (by decide +kernel) hg20 ?_
          refine ev_seg (o := 11) (nL := 4) (q := 328) (xs := [(.aload_n 0, 1, 0, 0, .null), (.iload_n 3, 1, 3, 0, .null), (.iconst 3, 1, 0, 0, .int 3), (.iadd, 1, 0, 0, .null)]) (L' := [some (.ref 0), some (.ref 2), some (.ref 93), some (.int x3)]) (st' := [.int (x3 + 3), .ref 0, .int (xs (Int32.toNatClampNeg (x3 + 2))), .int (xs (Int32.toNatClampNeg (x3 + 1))), .ref 2]) (w' := w) (g := []) (K := []) (by decide +kernel) rfl rfl rfl rfl jk0 ?_
          obtain ⟨hg21, h⟩ := jgd h
          refine ev_sld hLs (by decide +kernel) hg21 ?_
          obtain ⟨q22, hq22, h⟩ := jbe h
          refine ev_callV (ci := 9) (a := 2) (y2 := y_Count_road) (o := 11) (idx := 18) (d2 := d_Count_road) (n := 3) (mc2 := 0) (ms2 := 0) (As := [.int (xs (Int32.toNatClampNeg (x3 + 1))), .int (xs (Int32.toNatClampNeg (x3 + 2))), .int (xs (Int32.toNatClampNeg (x3 + 3)))]) (st := []) (res2 := (some (.int q22.1), jR0, q22.2)) (by decide +kernel) rfl lk_11_18 mo_Count_road mv_Count_road ⟨Nat.le_of_ble_eq_true rfl, Nat.le_of_ble_eq_true rfl⟩ rfl rfl kz_2 (by decide) rfl (Nat.le_of_ble_eq_true rfl) ⟨Nat.le_of_ble_eq_true rfl, Nat.le_of_ble_eq_true rfl⟩ hG (e_Count_road hG hq22) ?_
          refine ev_seg (o := 11) (nL := 4) (q := 337) (xs := [(.aload_n 2, 1, 2, 0, .null), (.aload_n 0, 1, 0, 0, .null), (.iload_n 3, 1, 3, 0, .null), (.iconst 1, 1, 0, 0, .int 1), (.iadd, 1, 0, 0, .null)]) (L' := [some (.ref 0), some (.ref 2), some (.ref 93), some (.int x3)]) (st' := [.int (x3 + 1), .ref 0, .ref 93, .int q22.1]) (w' := q22.2) (g := []) (K := []) (by decide +kernel) rfl rfl rfl rfl jk0 ?_
          obtain ⟨hg23, h⟩ := jgd h
          refine ev_sld hLs (by decide +kernel) hg23 ?_
          refine ev_seg (o := 11) (nL := 4) (q := 342) (xs := [(.aload_n 0, 1, 0, 0, .null), (.iload_n 3, 1, 3, 0, .null), (.iconst 2, 1, 0, 0, .int 2), (.iadd, 1, 0, 0, .null)]) (L' := [some (.ref 0), some (.ref 2), some (.ref 93), some (.int x3)]) (st' := [.int (x3 + 2), .ref 0, .int (xs (Int32.toNatClampNeg (x3 + 1))), .ref 93, .int q22.1]) (w' := q22.2) (g := []) (K := []) (by decide +kernel) rfl rfl rfl rfl jk0 ?_
          obtain ⟨hg24, h⟩ := jgd h
          refine ev_sld hLs (by decide +kernel) hg24 ?_
          refine ev_seg (o := 11) (nL := 4) (q := 347) (xs := [(.aload_n 0, 1, 0, 0, .null), (.iload_n 3, 1, 3, 0, .null), (.iconst 3, 1, 0, 0, .int 3), (.iadd, 1, 0, 0, .null)]) (L' := [some (.ref 0), some (.ref 2), some (.ref 93), some (.int x3)]) (st' := [.int (x3 + 3), .ref 0, .int (xs (Int32.toNatClampNeg (x3 + 2))), .int (xs (Int32.toNatClampNeg (x3 + 1))), .ref 93, .int q22.1]) (w' := q22.2) (g := []) (K := []) (by decide +kernel) rfl rfl rfl rfl jk0 ?_
          obtain ⟨hg25, h⟩ := jgd h
          refine ev_sld hLs (by decide +kernel) hg25 ?_
          obtain ⟨q26, hq26, h⟩ := jbe h
          refine ev_callV (ci := 10) (a := 93) (y2 := y_Model_road) (o := 11) (idx := 22) (d2 := d_Model_road) (n := 3) (mc2 := 0) (ms2 := 0) (As := [.int (xs (Int32.toNatClampNeg (x3 + 1))), .int (xs (Int32.toNatClampNeg (x3 + 2))), .int (xs (Int32.toNatClampNeg (x3 + 3)))]) (st := [.int q22.1]) (res2 := (some (.int q26.1), jR0, q26.2)) (by decide +kernel) rfl lk_11_22 mo_Model_road mv_Model_road ⟨Nat.le_of_ble_eq_true rfl, Nat.le_of_ble_eq_true rfl⟩ rfl rfl kz_93 (by decide) rfl (Nat.le_of_ble_eq_true rfl) ⟨Nat.le_of_ble_eq_true rfl, Nat.le_of_ble_eq_true rfl⟩ hG (e_Model_road hG hq26) ?_
          refine ev_icmp_eq (off := 1658) (tgt := 2009) (by decide +kernel) (by decide) (fun c27 => ?_) (fun c27 => ?_)
          · replace h := jpos c27 h
            refine ev_seg (o := 11) (nL := 4) (q := 18) (xs := [(.iinc 3 8, 3, 3, 0, .int 8), (.goto (-1994), 3, 0, 0, .null)]) (L' := [some (.ref 0), some (.ref 2), some (.ref 93), some (.int (x3 + 8))]) (st' := []) (w' := q26.2) (g := []) (K := []) (by decide +kernel) rfl rfl rfl rfl jk0 ?_
            refine ev_mask [true, true, true, true] ?_
            exact ih _ _ _ h
          · replace h := jneg c27 h
            refine ev_seg (o := 11) (nL := 4) (q := 355) (xs := [(.iconst 0, 1, 0, 0, .int 0)]) (L' := [some (.ref 0), some (.ref 2), some (.ref 93), some (.int x3)]) (st' := [.int 0]) (w' := q26.2) (g := []) (K := []) (by decide +kernel) rfl rfl rfl rfl jk0 ?_
            cases h
            exact ev_zret (by decide +kernel) rfl rfl rfl rfl rfl
        · replace h := jneg c18 h
          by_cases c28 : ((xs (Int32.toNatClampNeg x3)) &&& 63) = 2
          · replace h := jpos c28 h
            refine ev_tableIn (dflt := 1976) (lo := 0) (hi := 44) (offs := #[195, 280, 323, 356, 419, 462, 515, 548, 571, 594, 617, 650, 683, 716, 779, 802, 825, 848, 881, 924, 957, 1000, 1043, 1096, 1129, 1162, 1195, 1218, 1297, 1350, 1393, 1426, 1449, 1482, 1515, 1558, 1591, 1651, 1721, 1808, 1841, 1874, 1927, 1940, 1953]) (len := 195) (off := 323) (tgt := 356) (by decide +kernel) (by rw [c28]; decide) (by rw [c28]; decide) (by rw [c28]; decide) (by decide) ?_
            refine ev_seg (o := 11) (nL := 4) (q := 361) (xs := [(.aload_n 1, 1, 1, 0, .null), (.aload_n 0, 1, 0, 0, .null), (.iload_n 3, 1, 3, 0, .null), (.iconst 1, 1, 0, 0, .int 1), (.iadd, 1, 0, 0, .null)]) (L' := [some (.ref 0), some (.ref 2), some (.ref 93), some (.int x3)]) (st' := [.int (x3 + 1), .ref 0, .ref 2]) (w' := w) (g := []) (K := []) (by decide +kernel) rfl rfl rfl rfl jk0 ?_
            obtain ⟨hg29, h⟩ := jgd h
            refine ev_sld hLs (by decide +kernel) hg29 ?_
            refine ev_seg (o := 11) (nL := 4) (q := 366) (xs := [(.aload_n 0, 1, 0, 0, .null), (.iload_n 3, 1, 3, 0, .null), (.iconst 2, 1, 0, 0, .int 2), (.iadd, 1, 0, 0, .null)]) (L' := [some (.ref 0), some (.ref 2), some (.ref 93), some (.int x3)]) (st' := [.int (x3 + 2), .ref 0, .int (xs (Int32.toNatClampNeg (x3 + 1))), .ref 2]) (w' := w) (g := []) (K := []) (by decide +kernel) rfl rfl rfl rfl jk0 ?_
            obtain ⟨hg30, h⟩ := jgd h
            refine ev_sld hLs (by decide +kernel) hg30 ?_
            obtain ⟨q31, hq31, h⟩ := jbe h
            refine ev_callV (ci := 9) (a := 2) (y2 := y_Count_way) (o := 11) (idx := 23) (d2 := d_Count_way) (n := 2) (mc2 := 0) (ms2 := 0) (As := [.int (xs (Int32.toNatClampNeg (x3 + 1))), .int (xs (Int32.toNatClampNeg (x3 + 2)))]) (st := []) (res2 := (some (.int q31.1), jR0, q31.2)) (by decide +kernel) rfl lk_11_23 mo_Count_way mv_Count_way ⟨Nat.le_of_ble_eq_true rfl, Nat.le_of_ble_eq_true rfl⟩ rfl rfl kz_2 (by decide) rfl (Nat.le_of_ble_eq_true rfl) ⟨Nat.le_of_ble_eq_true rfl, Nat.le_of_ble_eq_true rfl⟩ hG (e_Count_way hG hq31) ?_
            refine ev_seg (o := 11) (nL := 4) (q := 375) (xs := [(.aload_n 2, 1, 2, 0, .null), (.aload_n 0, 1, 0, 0, .null), (.iload_n 3, 1, 3, 0, .null), (.iconst 1, 1, 0, 0, .int 1), (.iadd, 1, 0, 0, .null)]) (L' := [some (.ref 0), some (.ref 2), some (.ref 93), some (.int x3)]) (st' := [.int (x3 + 1), .ref 0, .ref 93, .int q31.1]) (w' := q31.2) (g := []) (K := []) (by decide +kernel) rfl rfl rfl rfl jk0 ?_
            obtain ⟨hg32, h⟩ := jgd h
            refine ev_sld hLs (by decide +kernel) hg32 ?_
            refine ev_seg (o := 11) (nL := 4) (q := 380) (xs := [(.aload_n 0, 1, 0, 0, .null), (.iload_n 3, 1, 3, 0, .null), (.iconst 2, 1, 0, 0, .int 2), (.iadd, 1, 0, 0, .null)]) (L' := [some (.ref 0), some (.ref 2), some (.ref 93), some (.int x3)]) (st' := [.int (x3 + 2), .ref 0, .int (xs (Int32.toNatClampNeg (x3 + 1))), .ref 93, .int q31.1]) (w' := q31.2) (g := []) (K := []) (by decide +kernel) rfl rfl rfl rfl jk0 ?_
            obtain ⟨hg33, h⟩ := jgd h
            refine ev_sld hLs (by decide +kernel) hg33 ?_
            obtain ⟨q34, hq34, h⟩ := jbe h
            refine ev_callV (ci := 10) (a := 93) (y2 := y_Model_way) (o := 11) (idx := 27) (d2 := d_Model_way) (n := 2) (mc2 := 0) (ms2 := 0) (As := [.int (xs (Int32.toNatClampNeg (x3 + 1))), .int (xs (Int32.toNatClampNeg (x3 + 2)))]) (st := [.int q31.1]) (res2 := (some (.int q34.1), jR0, q34.2)) (by decide +kernel) rfl lk_11_27 mo_Model_way mv_Model_way ⟨Nat.le_of_ble_eq_true rfl, Nat.le_of_ble_eq_true rfl⟩ rfl rfl kz_93 (by decide) rfl (Nat.le_of_ble_eq_true rfl) ⟨Nat.le_of_ble_eq_true rfl, Nat.le_of_ble_eq_true rfl⟩ hG (e_Model_way hG hq34) ?_
            refine ev_icmp_eq (off := 1625) (tgt := 2009) (by decide +kernel) (by decide) (fun c35 => ?_) (fun c35 => ?_)
            · replace h := jpos c35 h
              refine ev_seg (o := 11) (nL := 4) (q := 18) (xs := [(.iinc 3 8, 3, 3, 0, .int 8), (.goto (-1994), 3, 0, 0, .null)]) (L' := [some (.ref 0), some (.ref 2), some (.ref 93), some (.int (x3 + 8))]) (st' := []) (w' := q34.2) (g := []) (K := []) (by decide +kernel) rfl rfl rfl rfl jk0 ?_
              refine ev_mask [true, true, true, true] ?_
              exact ih _ _ _ h
            · replace h := jneg c35 h
              refine ev_seg (o := 11) (nL := 4) (q := 388) (xs := [(.iconst 0, 1, 0, 0, .int 0)]) (L' := [some (.ref 0), some (.ref 2), some (.ref 93), some (.int x3)]) (st' := [.int 0]) (w' := q34.2) (g := []) (K := []) (by decide +kernel) rfl rfl rfl rfl jk0 ?_
              cases h
              exact ev_zret (by decide +kernel) rfl rfl rfl rfl rfl
          · replace h := jneg c28 h
            by_cases c36 : ((xs (Int32.toNatClampNeg x3)) &&& 63) = 3
            · replace h := jpos c36 h
              refine ev_tableIn (dflt := 1976) (lo := 0) (hi := 44) (offs := #[195, 280, 323, 356, 419, 462, 515, 548, 571, 594, 617, 650, 683, 716, 779, 802, 825, 848, 881, 924, 957, 1000, 1043, 1096, 1129, 1162, 1195, 1218, 1297, 1350, 1393, 1426, 1449, 1482, 1515, 1558, 1591, 1651, 1721, 1808, 1841, 1874, 1927, 1940, 1953]) (len := 195) (off := 356) (tgt := 389) (by decide +kernel) (by rw [c36]; decide) (by rw [c36]; decide) (by rw [c36]; decide) (by decide) ?_
              refine ev_seg (o := 11) (nL := 4) (q := 394) (xs := [(.aload_n 1, 1, 1, 0, .null), (.aload_n 0, 1, 0, 0, .null), (.iload_n 3, 1, 3, 0, .null), (.iconst 1, 1, 0, 0, .int 1), (.iadd, 1, 0, 0, .null)]) (L' := [some (.ref 0), some (.ref 2), some (.ref 93), some (.int x3)]) (st' := [.int (x3 + 1), .ref 0, .ref 2]) (w' := w) (g := []) (K := []) (by decide +kernel) rfl rfl rfl rfl jk0 ?_
              obtain ⟨hg37, h⟩ := jgd h
              refine ev_sld hLs (by decide +kernel) hg37 ?_
              refine ev_seg (o := 11) (nL := 4) (q := 399) (xs := [(.aload_n 0, 1, 0, 0, .null), (.iload_n 3, 1, 3, 0, .null), (.iconst 2, 1, 0, 0, .int 2), (.iadd, 1, 0, 0, .null)]) (L' := [some (.ref 0), some (.ref 2), some (.ref 93), some (.int x3)]) (st' := [.int (x3 + 2), .ref 0, .int (xs (Int32.toNatClampNeg (x3 + 1))), .ref 2]) (w' := w) (g := []) (K := []) (by decide +kernel) rfl rfl rfl rfl jk0 ?_
              obtain ⟨hg38, h⟩ := jgd h
              refine ev_sld hLs (by decide +kernel) hg38 ?_
              refine ev_seg (o := 11) (nL := 4) (q := 404) (xs := [(.aload_n 0, 1, 0, 0, .null), (.iload_n 3, 1, 3, 0, .null), (.iconst 3, 1, 0, 0, .int 3), (.iadd, 1, 0, 0, .null)]) (L' := [some (.ref 0), some (.ref 2), some (.ref 93), some (.int x3)]) (st' := [.int (x3 + 3), .ref 0, .int (xs (Int32.toNatClampNeg (x3 + 2))), .int (xs (Int32.toNatClampNeg (x3 + 1))), .ref 2]) (w' := w) (g := []) (K := []) (by decide +kernel) rfl rfl rfl rfl jk0 ?_
              obtain ⟨hg39, h⟩ := jgd h
              refine ev_sld hLs (by decide +kernel) hg39 ?_
              refine ev_seg (o := 11) (nL := 4) (q := 409) (xs := [(.aload_n 0, 1, 0, 0, .null), (.iload_n 3, 1, 3, 0, .null), (.iconst 4, 1, 0, 0, .int 4), (.iadd, 1, 0, 0, .null)]) (L' := [some (.ref 0), some (.ref 2), some (.ref 93), some (.int x3)]) (st' := [.int (x3 + 4), .ref 0, .int (xs (Int32.toNatClampNeg (x3 + 3))), .int (xs (Int32.toNatClampNeg (x3 + 2))), .int (xs (Int32.toNatClampNeg (x3 + 1))), .ref 2]) (w' := w) (g := []) (K := []) (by decide +kernel) rfl rfl rfl rfl jk0 ?_
              obtain ⟨hg40, h⟩ := jgd h
              refine ev_sld hLs (by decide +kernel) hg40 ?_
              refine ev_seg (o := 11) (nL := 4) (q := 414) (xs := [(.aload_n 0, 1, 0, 0, .null), (.iload_n 3, 1, 3, 0, .null), (.iconst 5, 1, 0, 0, .int 5), (.iadd, 1, 0, 0, .null)]) (L' := [some (.ref 0), some (.ref 2), some (.ref 93), some (.int x3)]) (st' := [.int (x3 + 5), .ref 0, .int (xs (Int32.toNatClampNeg (x3 + 4))), .int (xs (Int32.toNatClampNeg (x3 + 3))), .int (xs (Int32.toNatClampNeg (x3 + 2))), .int (xs (Int32.toNatClampNeg (x3 + 1))), .ref 2]) (w' := w) (g := []) (K := []) (by decide +kernel) rfl rfl rfl rfl jk0 ?_
              obtain ⟨hg41, h⟩ := jgd h
              refine ev_sld hLs (by decide +kernel) hg41 ?_
              obtain ⟨q42, hq42, h⟩ := jbe h
              refine ev_callV (ci := 9) (a := 2) (y2 := y_Count_sort) (o := 11) (idx := 28) (d2 := d_Count_sort) (n := 5) (mc2 := 0) (ms2 := 0) (As := [.int (xs (Int32.toNatClampNeg (x3 + 1))), .int (xs (Int32.toNatClampNeg (x3 + 2))), .int (xs (Int32.toNatClampNeg (x3 + 3))), .int (xs (Int32.toNatClampNeg (x3 + 4))), .int (xs (Int32.toNatClampNeg (x3 + 5)))]) (st := []) (res2 := (some (.int q42.1), jR0, q42.2)) (by decide +kernel) rfl lk_11_28 mo_Count_sort mv_Count_sort ⟨Nat.le_of_ble_eq_true rfl, Nat.le_of_ble_eq_true rfl⟩ rfl rfl kz_2 (by decide) rfl (Nat.le_of_ble_eq_true rfl) ⟨Nat.le_of_ble_eq_true rfl, Nat.le_of_ble_eq_true rfl⟩ hG (e_Count_sort hG hq42) ?_
              refine ev_seg (o := 11) (nL := 4) (q := 423) (xs := [(.aload_n 2, 1, 2, 0, .null), (.aload_n 0, 1, 0, 0, .null), (.iload_n 3, 1, 3, 0, .null), (.iconst 1, 1, 0, 0, .int 1), (.iadd, 1, 0, 0, .null)]) (L' := [some (.ref 0), some (.ref 2), some (.ref 93), some (.int x3)]) (st' := [.int (x3 + 1), .ref 0, .ref 93, .int q42.1]) (w' := q42.2) (g := []) (K := []) (by decide +kernel) rfl rfl rfl rfl jk0 ?_
              obtain ⟨hg43, h⟩ := jgd h
              refine ev_sld hLs (by decide +kernel) hg43 ?_
              refine ev_seg (o := 11) (nL := 4) (q := 428) (xs := [(.aload_n 0, 1, 0, 0, .null), (.iload_n 3, 1, 3, 0, .null), (.iconst 2, 1, 0, 0, .int 2), (.iadd, 1, 0, 0, .null)]) (L' := [some (.ref 0), some (.ref 2), some (.ref 93), some (.int x3)]) (st' := [.int (x3 + 2), .ref 0, .int (xs (Int32.toNatClampNeg (x3 + 1))), .ref 93, .int q42.1]) (w' := q42.2) (g := []) (K := []) (by decide +kernel) rfl rfl rfl rfl jk0 ?_
              obtain ⟨hg44, h⟩ := jgd h
              refine ev_sld hLs (by decide +kernel) hg44 ?_
              refine ev_seg (o := 11) (nL := 4) (q := 433) (xs := [(.aload_n 0, 1, 0, 0, .null), (.iload_n 3, 1, 3, 0, .null), (.iconst 3, 1, 0, 0, .int 3), (.iadd, 1, 0, 0, .null)]) (L' := [some (.ref 0), some (.ref 2), some (.ref 93), some (.int x3)]) (st' := [.int (x3 + 3), .ref 0, .int (xs (Int32.toNatClampNeg (x3 + 2))), .int (xs (Int32.toNatClampNeg (x3 + 1))), .ref 93, .int q42.1]) (w' := q42.2) (g := []) (K := []) (by decide +kernel) rfl rfl rfl rfl jk0 ?_
              obtain ⟨hg45, h⟩ := jgd h
              refine ev_sld hLs (by decide +kernel) hg45 ?_
              refine ev_seg (o := 11) (nL := 4) (q := 438) (xs := [(.aload_n 0, 1, 0, 0, .null), (.iload_n 3, 1, 3, 0, .null), (.iconst 4, 1, 0, 0, .int 4), (.iadd, 1, 0, 0, .null)]) (L' := [some (.ref 0), some (.ref 2), some (.ref 93), some (.int x3)]) (st' := [.int (x3 + 4), .ref 0, .int (xs (Int32.toNatClampNeg (x3 + 3))), .int (xs (Int32.toNatClampNeg (x3 + 2))), .int (xs (Int32.toNatClampNeg (x3 + 1))), .ref 93, .int q42.1]) (w' := q42.2) (g := []) (K := []) (by decide +kernel) rfl rfl rfl rfl jk0 ?_
              obtain ⟨hg46, h⟩ := jgd h
              refine ev_sld hLs (by decide +kernel) hg46 ?_
              refine ev_seg (o := 11) (nL := 4) (q := 443) (xs := [(.aload_n 0, 1, 0, 0, .null), (.iload_n 3, 1, 3, 0, .null), (.iconst 5, 1, 0, 0, .int 5), (.iadd, 1, 0, 0, .null)]) (L' := [some (.ref 0), some (.ref 2), some (.ref 93), some (.int x3)]) (st' := [.int (x3 + 5), .ref 0, .int (xs (Int32.toNatClampNeg (x3 + 4))), .int (xs (Int32.toNatClampNeg (x3 + 3))), .int (xs (Int32.toNatClampNeg (x3 + 2))), .int (xs (Int32.toNatClampNeg (x3 + 1))), .ref 93, .int q42.1]) (w' := q42.2) (g := []) (K := []) (by decide +kernel) rfl rfl rfl rfl jk0 ?_
              obtain ⟨hg47, h⟩ := jgd h
              refine ev_sld hLs (by decide +kernel) hg47 ?_
              obtain ⟨q48, hq48, h⟩ := jbe h
              refine ev_callV (ci := 10) (a := 93) (y2 := y_Model_sort) (o := 11) (idx := 32) (d2 := d_Model_sort) (n := 5) (mc2 := 0) (ms2 := 0) (As := [.int (xs (Int32.toNatClampNeg (x3 + 1))), .int (xs (Int32.toNatClampNeg (x3 + 2))), .int (xs (Int32.toNatClampNeg (x3 + 3))), .int (xs (Int32.toNatClampNeg (x3 + 4))), .int (xs (Int32.toNatClampNeg (x3 + 5)))]) (st := [.int q42.1]) (res2 := (some (.int q48.1), jR0, q48.2)) (by decide +kernel) rfl lk_11_32 mo_Model_sort mv_Model_sort ⟨Nat.le_of_ble_eq_true rfl, Nat.le_of_ble_eq_true rfl⟩ rfl rfl kz_93 (by decide) rfl (Nat.le_of_ble_eq_true rfl) ⟨Nat.le_of_ble_eq_true rfl, Nat.le_of_ble_eq_true rfl⟩ hG (e_Model_sort hG hq48) ?_
              refine ev_icmp_eq (off := 1562) (tgt := 2009) (by decide +kernel) (by decide) (fun c49 => ?_) (fun c49 => ?_)
              · replace h := jpos c49 h
                refine ev_seg (o := 11) (nL := 4) (q := 18) (xs := [(.iinc 3 8, 3, 3, 0, .int 8), (.goto (-1994), 3, 0, 0, .null)]) (L' := [some (.ref 0), some (.ref 2), some (.ref 93), some (.int (x3 + 8))]) (st' := []) (w' := q48.2) (g := []) (K := []) (by decide +kernel) rfl rfl rfl rfl jk0 ?_
                refine ev_mask [true, true, true, true] ?_
                exact ih _ _ _ h
              · replace h := jneg c49 h
                refine ev_seg (o := 11) (nL := 4) (q := 451) (xs := [(.iconst 0, 1, 0, 0, .int 0)]) (L' := [some (.ref 0), some (.ref 2), some (.ref 93), some (.int x3)]) (st' := [.int 0]) (w' := q48.2) (g := []) (K := []) (by decide +kernel) rfl rfl rfl rfl jk0 ?_
                cases h
                exact ev_zret (by decide +kernel) rfl rfl rfl rfl rfl
            · replace h := jneg c36 h
              by_cases c50 : ((xs (Int32.toNatClampNeg x3)) &&& 63) = 4
              · replace h := jpos c50 h
                refine ev_tableIn (dflt := 1976) (lo := 0) (hi := 44) (offs := #[195, 280, 323, 356, 419, 462, 515, 548, 571, 594, 617, 650, 683, 716, 779, 802, 825, 848, 881, 924, 957, 1000, 1043, 1096, 1129, 1162, 1195, 1218, 1297, 1350, 1393, 1426, 1449, 1482, 1515, 1558, 1591, 1651, 1721, 1808, 1841, 1874, 1927, 1940, 1953]) (len := 195) (off := 419) (tgt := 452) (by decide +kernel) (by rw [c50]; decide) (by rw [c50]; decide) (by rw [c50]; decide) (by decide) ?_
                refine ev_seg (o := 11) (nL := 4) (q := 457) (xs := [(.aload_n 1, 1, 1, 0, .null), (.aload_n 0, 1, 0, 0, .null), (.iload_n 3, 1, 3, 0, .null), (.iconst 1, 1, 0, 0, .int 1), (.iadd, 1, 0, 0, .null)]) (L' := [some (.ref 0), some (.ref 2), some (.ref 93), some (.int x3)]) (st' := [.int (x3 + 1), .ref 0, .ref 2]) (w' := w) (g := []) (K := []) (by decide +kernel) rfl rfl rfl rfl jk0 ?_
                obtain ⟨hg51, h⟩ := jgd h
                refine ev_sld hLs (by decide +kernel) hg51 ?_
                refine ev_seg (o := 11) (nL := 4) (q := 462) (xs := [(.aload_n 0, 1, 0, 0, .null), (.iload_n 3, 1, 3, 0, .null), (.iconst 2, 1, 0, 0, .int 2), (.iadd, 1, 0, 0, .null)]) (L' := [some (.ref 0), some (.ref 2), some (.ref 93), some (.int x3)]) (st' := [.int (x3 + 2), .ref 0, .int (xs (Int32.toNatClampNeg (x3 + 1))), .ref 2]) (w' := w) (g := []) (K := []) (by decide +kernel) rfl rfl rfl rfl jk0 ?_
                obtain ⟨hg52, h⟩ := jgd h
                refine ev_sld hLs (by decide +kernel) hg52 ?_
                refine ev_seg (o := 11) (nL := 4) (q := 467) (xs := [(.aload_n 0, 1, 0, 0, .null), (.iload_n 3, 1, 3, 0, .null), (.iconst 3, 1, 0, 0, .int 3), (.iadd, 1, 0, 0, .null)]) (L' := [some (.ref 0), some (.ref 2), some (.ref 93), some (.int x3)]) (st' := [.int (x3 + 3), .ref 0, .int (xs (Int32.toNatClampNeg (x3 + 2))), .int (xs (Int32.toNatClampNeg (x3 + 1))), .ref 2]) (w' := w) (g := []) (K := []) (by decide +kernel) rfl rfl rfl rfl jk0 ?_
                obtain ⟨hg53, h⟩ := jgd h
                refine ev_sld hLs (by decide +kernel) hg53 ?_
                obtain ⟨q54, hq54, h⟩ := jbe h
                refine ev_callV (ci := 9) (a := 2) (y2 := y_Count_rules) (o := 11) (idx := 33) (d2 := d_Count_rules) (n := 3) (mc2 := 0) (ms2 := 0) (As := [.int (xs (Int32.toNatClampNeg (x3 + 1))), .int (xs (Int32.toNatClampNeg (x3 + 2))), .int (xs (Int32.toNatClampNeg (x3 + 3)))]) (st := []) (res2 := (some (.int q54.1), jR0, q54.2)) (by decide +kernel) rfl lk_11_33 mo_Count_rules mv_Count_rules ⟨Nat.le_of_ble_eq_true rfl, Nat.le_of_ble_eq_true rfl⟩ rfl rfl kz_2 (by decide) rfl (Nat.le_of_ble_eq_true rfl) ⟨Nat.le_of_ble_eq_true rfl, Nat.le_of_ble_eq_true rfl⟩ hG (e_Count_rules hG hq54) ?_
                refine ev_seg (o := 11) (nL := 4) (q := 476) (xs := [(.aload_n 2, 1, 2, 0, .null), (.aload_n 0, 1, 0, 0, .null), (.iload_n 3, 1, 3, 0, .null), (.iconst 1, 1, 0, 0, .int 1), (.iadd, 1, 0, 0, .null)]) (L' := [some (.ref 0), some (.ref 2), some (.ref 93), some (.int x3)]) (st' := [.int (x3 + 1), .ref 0, .ref 93, .int q54.1]) (w' := q54.2) (g := []) (K := []) (by decide +kernel) rfl rfl rfl rfl jk0 ?_
                obtain ⟨hg55, h⟩ := jgd h
                refine ev_sld hLs (by decide +kernel) hg55 ?_
                refine ev_seg (o := 11) (nL := 4) (q := 481) (xs := [(.aload_n 0, 1, 0, 0, .null), (.iload_n 3, 1, 3, 0, .null), (.iconst 2, 1, 0, 0, .int 2), (.iadd, 1, 0, 0, .null)]) (L' := [some (.ref 0), some (.ref 2), some (.ref 93), some (.int x3)]) (st' := [.int (x3 + 2), .ref 0, .int (xs (Int32.toNatClampNeg (x3 + 1))), .ref 93, .int q54.1]) (w' := q54.2) (g := []) (K := []) (by decide +kernel) rfl rfl rfl rfl jk0 ?_
                obtain ⟨hg56, h⟩ := jgd h
                refine ev_sld hLs (by decide +kernel) hg56 ?_
                refine ev_seg (o := 11) (nL := 4) (q := 486) (xs := [(.aload_n 0, 1, 0, 0, .null), (.iload_n 3, 1, 3, 0, .null), (.iconst 3, 1, 0, 0, .int 3), (.iadd, 1, 0, 0, .null)]) (L' := [some (.ref 0), some (.ref 2), some (.ref 93), some (.int x3)]) (st' := [.int (x3 + 3), .ref 0, .int (xs (Int32.toNatClampNeg (x3 + 2))), .int (xs (Int32.toNatClampNeg (x3 + 1))), .ref 93, .int q54.1]) (w' := q54.2) (g := []) (K := []) (by decide +kernel) rfl rfl rfl rfl jk0 ?_
                obtain ⟨hg57, h⟩ := jgd h
                refine ev_sld hLs (by decide +kernel) hg57 ?_
                obtain ⟨q58, hq58, h⟩ := jbe h
                refine ev_callV (ci := 10) (a := 93) (y2 := y_Model_rules) (o := 11) (idx := 37) (d2 := d_Model_rules) (n := 3) (mc2 := 0) (ms2 := 0) (As := [.int (xs (Int32.toNatClampNeg (x3 + 1))), .int (xs (Int32.toNatClampNeg (x3 + 2))), .int (xs (Int32.toNatClampNeg (x3 + 3)))]) (st := [.int q54.1]) (res2 := (some (.int q58.1), jR0, q58.2)) (by decide +kernel) rfl lk_11_37 mo_Model_rules mv_Model_rules ⟨Nat.le_of_ble_eq_true rfl, Nat.le_of_ble_eq_true rfl⟩ rfl rfl kz_93 (by decide) rfl (Nat.le_of_ble_eq_true rfl) ⟨Nat.le_of_ble_eq_true rfl, Nat.le_of_ble_eq_true rfl⟩ hG (e_Model_rules hG hq58) ?_
                refine ev_icmp_eq (off := 1519) (tgt := 2009) (by decide +kernel) (by decide) (fun c59 => ?_) (fun c59 => ?_)
                · replace h := jpos c59 h
                  refine ev_seg (o := 11) (nL := 4) (q := 18) (xs := [(.iinc 3 8, 3, 3, 0, .int 8), (.goto (-1994), 3, 0, 0, .null)]) (L' := [some (.ref 0), some (.ref 2), some (.ref 93), some (.int (x3 + 8))]) (st' := []) (w' := q58.2) (g := []) (K := []) (by decide +kernel) rfl rfl rfl rfl jk0 ?_
                  refine ev_mask [true, true, true, true] ?_
                  exact ih _ _ _ h
                · replace h := jneg c59 h
                  refine ev_seg (o := 11) (nL := 4) (q := 494) (xs := [(.iconst 0, 1, 0, 0, .int 0)]) (L' := [some (.ref 0), some (.ref 2), some (.ref 93), some (.int x3)]) (st' := [.int 0]) (w' := q58.2) (g := []) (K := []) (by decide +kernel) rfl rfl rfl rfl jk0 ?_
                  cases h
                  exact ev_zret (by decide +kernel) rfl rfl rfl rfl rfl
              · replace h := jneg c50 h
                by_cases c60 : ((xs (Int32.toNatClampNeg x3)) &&& 63) = 5
                · replace h := jpos c60 h
                  refine ev_tableIn (dflt := 1976) (lo := 0) (hi := 44) (offs := #[195, 280, 323, 356, 419, 462, 515, 548, 571, 594, 617, 650, 683, 716, 779, 802, 825, 848, 881, 924, 957, 1000, 1043, 1096, 1129, 1162, 1195, 1218, 1297, 1350, 1393, 1426, 1449, 1482, 1515, 1558, 1591, 1651, 1721, 1808, 1841, 1874, 1927, 1940, 1953]) (len := 195) (off := 462) (tgt := 495) (by decide +kernel) (by rw [c60]; decide) (by rw [c60]; decide) (by rw [c60]; decide) (by decide) ?_
                  refine ev_seg (o := 11) (nL := 4) (q := 500) (xs := [(.aload_n 1, 1, 1, 0, .null), (.aload_n 0, 1, 0, 0, .null), (.iload_n 3, 1, 3, 0, .null), (.iconst 1, 1, 0, 0, .int 1), (.iadd, 1, 0, 0, .null)]) (L' := [some (.ref 0), some (.ref 2), some (.ref 93), some (.int x3)]) (st' := [.int (x3 + 1), .ref 0, .ref 2]) (w' := w) (g := []) (K := []) (by decide +kernel) rfl rfl rfl rfl jk0 ?_
                  obtain ⟨hg61, h⟩ := jgd h
                  refine ev_sld hLs (by decide +kernel) hg61 ?_
                  refine ev_seg (o := 11) (nL := 4) (q := 505) (xs := [(.aload_n 0, 1, 0, 0, .null), (.iload_n 3, 1, 3, 0, .null), (.iconst 2, 1, 0, 0, .int 2), (.iadd, 1, 0, 0, .null)]) (L' := [some (.ref 0), some (.ref 2), some (.ref 93), some (.int x3)]) (st' := [.int (x3 + 2), .ref 0, .int (xs (Int32.toNatClampNeg (x3 + 1))), .ref 2]) (w' := w) (g := []) (K := []) (by decide +kernel) rfl rfl rfl rfl jk0 ?_
                  obtain ⟨hg62, h⟩ := jgd h
                  refine ev_sld hLs (by decide +kernel) hg62 ?_
                  refine ev_seg (o := 11) (nL := 4) (q := 510) (xs := [(.aload_n 0, 1, 0, 0, .null), (.iload_n 3, 1, 3, 0, .null), (.iconst 3, 1, 0, 0, .int 3), (.iadd, 1, 0, 0, .null)]) (L' := [some (.ref 0), some (.ref 2), some (.ref 93), some (.int x3)]) (st' := [.int (x3 + 3), .ref 0, .int (xs (Int32.toNatClampNeg (x3 + 2))), .int (xs (Int32.toNatClampNeg (x3 + 1))), .ref 2]) (w' := w) (g := []) (K := []) (by decide +kernel) rfl rfl rfl rfl jk0 ?_
                  obtain ⟨hg63, h⟩ := jgd h
                  refine ev_sld hLs (by decide +kernel) hg63 ?_
                  refine ev_seg (o := 11) (nL := 4) (q := 515) (xs := [(.aload_n 0, 1, 0, 0, .null), (.iload_n 3, 1, 3, 0, .null), (.iconst 4, 1, 0, 0, .int 4), (.iadd, 1, 0, 0, .null)]) (L' := [some (.ref 0), some (.ref 2), some (.ref 93), some (.int x3)]) (st' := [.int (x3 + 4), .ref 0, .int (xs (Int32.toNatClampNeg (x3 + 3))), .int (xs (Int32.toNatClampNeg (x3 + 2))), .int (xs (Int32.toNatClampNeg (x3 + 1))), .ref 2]) (w' := w) (g := []) (K := []) (by decide +kernel) rfl rfl rfl rfl jk0 ?_
                  obtain ⟨hg64, h⟩ := jgd h
                  refine ev_sld hLs (by decide +kernel) hg64 ?_
                  obtain ⟨q65, hq65, h⟩ := jbe h
                  refine ev_callV (ci := 9) (a := 2) (y2 := y_Count_make) (o := 11) (idx := 38) (d2 := d_Count_make) (n := 4) (mc2 := 0) (ms2 := 0) (As := [.int (xs (Int32.toNatClampNeg (x3 + 1))), .int (xs (Int32.toNatClampNeg (x3 + 2))), .int (xs (Int32.toNatClampNeg (x3 + 3))), .int (xs (Int32.toNatClampNeg (x3 + 4)))]) (st := []) (res2 := (some (.int q65.1), jR0, q65.2)) (by decide +kernel) rfl lk_11_38 mo_Count_make mv_Count_make ⟨Nat.le_of_ble_eq_true rfl, Nat.le_of_ble_eq_true rfl⟩ rfl rfl kz_2 (by decide) rfl (Nat.le_of_ble_eq_true rfl) ⟨Nat.le_of_ble_eq_true rfl, Nat.le_of_ble_eq_true rfl⟩ hG (e_Count_make hG hq65) ?_
                  refine ev_seg (o := 11) (nL := 4) (q := 524) (xs := [(.aload_n 2, 1, 2, 0, .null), (.aload_n 0, 1, 0, 0, .null), (.iload_n 3, 1, 3, 0, .null), (.iconst 1, 1, 0, 0, .int 1), (.iadd, 1, 0, 0, .null)]) (L' := [some (.ref 0), some (.ref 2), some (.ref 93), some (.int x3)]) (st' := [.int (x3 + 1), .ref 0, .ref 93, .int q65.1]) (w' := q65.2) (g := []) (K := []) (by decide +kernel) rfl rfl rfl rfl jk0 ?_
                  obtain ⟨hg66, h⟩ := jgd h
                  refine ev_sld hLs (by decide +kernel) hg66 ?_
                  refine ev_seg (o := 11) (nL := 4) (q := 529) (xs := [(.aload_n 0, 1, 0, 0, .null), (.iload_n 3, 1, 3, 0, .null), (.iconst 2, 1, 0, 0, .int 2), (.iadd, 1, 0, 0, .null)]) (L' := [some (.ref 0), some (.ref 2), some (.ref 93), some (.int x3)]) (st' := [.int (x3 + 2), .ref 0, .int (xs (Int32.toNatClampNeg (x3 + 1))), .ref 93, .int q65.1]) (w' := q65.2) (g := []) (K := []) (by decide +kernel) rfl rfl rfl rfl jk0 ?_
                  obtain ⟨hg67, h⟩ := jgd h
                  refine ev_sld hLs (by decide +kernel) hg67 ?_
                  refine ev_seg (o := 11) (nL := 4) (q := 534) (xs := [(.aload_n 0, 1, 0, 0, .null), (.iload_n 3, 1, 3, 0, .null), (.iconst 3, 1, 0, 0, .int 3), (.iadd, 1, 0, 0, .null)]) (L' := [some (.ref 0), some (.ref 2), some (.ref 93), some (.int x3)]) (st' := [.int (x3 + 3), .ref 0, .int (xs (Int32.toNatClampNeg (x3 + 2))), .int (xs (Int32.toNatClampNeg (x3 + 1))), .ref 93, .int q65.1]) (w' := q65.2) (g := []) (K := []) (by decide +kernel) rfl rfl rfl rfl jk0 ?_
                  obtain ⟨hg68, h⟩ := jgd h
                  refine ev_sld hLs (by decide +kernel) hg68 ?_
                  refine ev_seg (o := 11) (nL := 4) (q := 539) (xs := [(.aload_n 0, 1, 0, 0, .null), (.iload_n 3, 1, 3, 0, .null), (.iconst 4, 1, 0, 0, .int 4), (.iadd, 1, 0, 0, .null)]) (L' := [some (.ref 0), some (.ref 2), some (.ref 93), some (.int x3)]) (st' := [.int (x3 + 4), .ref 0, .int (xs (Int32.toNatClampNeg (x3 + 3))), .int (xs (Int32.toNatClampNeg (x3 + 2))), .int (xs (Int32.toNatClampNeg (x3 + 1))), .ref 93, .int q65.1]) (w' := q65.2) (g := []) (K := []) (by decide +kernel) rfl rfl rfl rfl jk0 ?_
                  obtain ⟨hg69, h⟩ := jgd h
                  refine ev_sld hLs (by decide +kernel) hg69 ?_
                  obtain ⟨q70, hq70, h⟩ := jbe h
                  refine ev_callV (ci := 10) (a := 93) (y2 := y_Model_make) (o := 11) (idx := 42) (d2 := d_Model_make) (n := 4) (mc2 := 0) (ms2 := 0) (As := [.int (xs (Int32.toNatClampNeg (x3 + 1))), .int (xs (Int32.toNatClampNeg (x3 + 2))), .int (xs (Int32.toNatClampNeg (x3 + 3))), .int (xs (Int32.toNatClampNeg (x3 + 4)))]) (st := [.int q65.1]) (res2 := (some (.int q70.1), jR0, q70.2)) (by decide +kernel) rfl lk_11_42 mo_Model_make mv_Model_make ⟨Nat.le_of_ble_eq_true rfl, Nat.le_of_ble_eq_true rfl⟩ rfl rfl kz_93 (by decide) rfl (Nat.le_of_ble_eq_true rfl) ⟨Nat.le_of_ble_eq_true rfl, Nat.le_of_ble_eq_true rfl⟩ hG (e_Model_make hG hq70) ?_
                  refine ev_icmp_eq (off := 1466) (tgt := 2009) (by decide +kernel) (by decide) (fun c71 => ?_) (fun c71 => ?_)
                  · replace h := jpos c71 h
                    refine ev_seg (o := 11) (nL := 4) (q := 18) (xs := [(.iinc 3 8, 3, 3, 0, .int 8), (.goto (-1994), 3, 0, 0, .null)]) (L' := [some (.ref 0), some (.ref 2), some (.ref 93), some (.int (x3 + 8))]) (st' := []) (w' := q70.2) (g := []) (K := []) (by decide +kernel) rfl rfl rfl rfl jk0 ?_
                    refine ev_mask [true, true, true, true] ?_
                    exact ih _ _ _ h
                  · replace h := jneg c71 h
                    refine ev_seg (o := 11) (nL := 4) (q := 547) (xs := [(.iconst 0, 1, 0, 0, .int 0)]) (L' := [some (.ref 0), some (.ref 2), some (.ref 93), some (.int x3)]) (st' := [.int 0]) (w' := q70.2) (g := []) (K := []) (by decide +kernel) rfl rfl rfl rfl jk0 ?_
                    cases h
                    exact ev_zret (by decide +kernel) rfl rfl rfl rfl rfl
                · replace h := jneg c60 h
                  by_cases c72 : ((xs (Int32.toNatClampNeg x3)) &&& 63) = 6
                  · replace h := jpos c72 h
                    refine ev_tableIn (dflt := 1976) (lo := 0) (hi := 44) (offs := #[195, 280, 323, 356, 419, 462, 515, 548, 571, 594, 617, 650, 683, 716, 779, 802, 825, 848, 881, 924, 957, 1000, 1043, 1096, 1129, 1162, 1195, 1218, 1297, 1350, 1393, 1426, 1449, 1482, 1515, 1558, 1591, 1651, 1721, 1808, 1841, 1874, 1927, 1940, 1953]) (len := 195) (off := 515) (tgt := 548) (by decide +kernel) (by rw [c72]; decide) (by rw [c72]; decide) (by rw [c72]; decide) (by decide) ?_
                    refine ev_seg (o := 11) (nL := 4) (q := 553) (xs := [(.aload_n 1, 1, 1, 0, .null), (.aload_n 0, 1, 0, 0, .null), (.iload_n 3, 1, 3, 0, .null), (.iconst 1, 1, 0, 0, .int 1), (.iadd, 1, 0, 0, .null)]) (L' := [some (.ref 0), some (.ref 2), some (.ref 93), some (.int x3)]) (st' := [.int (x3 + 1), .ref 0, .ref 2]) (w' := w) (g := []) (K := []) (by decide +kernel) rfl rfl rfl rfl jk0 ?_
                    obtain ⟨hg73, h⟩ := jgd h
                    refine ev_sld hLs (by decide +kernel) hg73 ?_
                    refine ev_seg (o := 11) (nL := 4) (q := 558) (xs := [(.aload_n 0, 1, 0, 0, .null), (.iload_n 3, 1, 3, 0, .null), (.iconst 2, 1, 0, 0, .int 2), (.iadd, 1, 0, 0, .null)]) (L' := [some (.ref 0), some (.ref 2), some (.ref 93), some (.int x3)]) (st' := [.int (x3 + 2), .ref 0, .int (xs (Int32.toNatClampNeg (x3 + 1))), .ref 2]) (w' := w) (g := []) (K := []) (by decide +kernel) rfl rfl rfl rfl jk0 ?_
                    obtain ⟨hg74, h⟩ := jgd h
                    refine ev_sld hLs (by decide +kernel) hg74 ?_
                    obtain ⟨q75, hq75, h⟩ := jbe h
                    refine ev_callV (ci := 9) (a := 2) (y2 := y_Count_move) (o := 11) (idx := 43) (d2 := d_Count_move) (n := 2) (mc2 := 0) (ms2 := 0) (As := [.int (xs (Int32.toNatClampNeg (x3 + 1))), .int (xs (Int32.toNatClampNeg (x3 + 2)))]) (st := []) (res2 := (some (.int q75.1), jR0, q75.2)) (by decide +kernel) rfl lk_11_43 mo_Count_move mv_Count_move ⟨Nat.le_of_ble_eq_true rfl, Nat.le_of_ble_eq_true rfl⟩ rfl rfl kz_2 (by decide) rfl (Nat.le_of_ble_eq_true rfl) ⟨Nat.le_of_ble_eq_true rfl, Nat.le_of_ble_eq_true rfl⟩ hG (e_Count_move hG hq75) ?_
                    refine ev_seg (o := 11) (nL := 4) (q := 567) (xs := [(.aload_n 2, 1, 2, 0, .null), (.aload_n 0, 1, 0, 0, .null), (.iload_n 3, 1, 3, 0, .null), (.iconst 1, 1, 0, 0, .int 1), (.iadd, 1, 0, 0, .null)]) (L' := [some (.ref 0), some (.ref 2), some (.ref 93), some (.int x3)]) (st' := [.int (x3 + 1), .ref 0, .ref 93, .int q75.1]) (w' := q75.2) (g := []) (K := []) (by decide +kernel) rfl rfl rfl rfl jk0 ?_
                    obtain ⟨hg76, h⟩ := jgd h
                    refine ev_sld hLs (by decide +kernel) hg76 ?_
                    refine ev_seg (o := 11) (nL := 4) (q := 572) (xs := [(.aload_n 0, 1, 0, 0, .null), (.iload_n 3, 1, 3, 0, .null), (.iconst 2, 1, 0, 0, .int 2), (.iadd, 1, 0, 0, .null)]) (L' := [some (.ref 0), some (.ref 2), some (.ref 93), some (.int x3)]) (st' := [.int (x3 + 2), .ref 0, .int (xs (Int32.toNatClampNeg (x3 + 1))), .ref 93, .int q75.1]) (w' := q75.2) (g := []) (K := []) (by decide +kernel) rfl rfl rfl rfl jk0 ?_
                    obtain ⟨hg77, h⟩ := jgd h
                    refine ev_sld hLs (by decide +kernel) hg77 ?_
                    obtain ⟨q78, hq78, h⟩ := jbe h
                    refine ev_callV (ci := 10) (a := 93) (y2 := y_Model_move) (o := 11) (idx := 46) (d2 := d_Model_move) (n := 2) (mc2 := 0) (ms2 := 0) (As := [.int (xs (Int32.toNatClampNeg (x3 + 1))), .int (xs (Int32.toNatClampNeg (x3 + 2)))]) (st := [.int q75.1]) (res2 := (some (.int q78.1), jR0, q78.2)) (by decide +kernel) rfl lk_11_46 mo_Model_move mv_Model_move ⟨Nat.le_of_ble_eq_true rfl, Nat.le_of_ble_eq_true rfl⟩ rfl rfl kz_93 (by decide) rfl (Nat.le_of_ble_eq_true rfl) ⟨Nat.le_of_ble_eq_true rfl, Nat.le_of_ble_eq_true rfl⟩ hG (e_Model_move hG hq78) ?_
                    refine ev_icmp_eq (off := 1433) (tgt := 2009) (by decide +kernel) (by decide) (fun c79 => ?_) (fun c79 => ?_)
                    · replace h := jpos c79 h
                      refine ev_seg (o := 11) (nL := 4) (q := 18) (xs := [(.iinc 3 8, 3, 3, 0, .int 8), (.goto (-1994), 3, 0, 0, .null)]) (L' := [some (.ref 0), some (.ref 2), some (.ref 93), some (.int (x3 + 8))]) (st' := []) (w' := q78.2) (g := []) (K := []) (by decide +kernel) rfl rfl rfl rfl jk0 ?_
                      refine ev_mask [true, true, true, true] ?_
                      exact ih _ _ _ h
                    · replace h := jneg c79 h
                      refine ev_seg (o := 11) (nL := 4) (q := 580) (xs := [(.iconst 0, 1, 0, 0, .int 0)]) (L' := [some (.ref 0), some (.ref 2), some (.ref 93), some (.int x3)]) (st' := [.int 0]) (w' := q78.2) (g := []) (K := []) (by decide +kernel) rfl rfl rfl rfl jk0 ?_
                      cases h
                      exact ev_zret (by decide +kernel) rfl rfl rfl rfl rfl
                  · replace h := jneg c72 h
                    by_cases c80 : ((xs (Int32.toNatClampNeg x3)) &&& 63) = 7
                    · replace h := jpos c80 h
                      refine ev_tableIn (dflt := 1976) (lo := 0) (hi := 44) (offs := #[195, 280, 323, 356, 419, 462, 515, 548, 571, 594, 617, 650, 683, 716, 779, 802, 825, 848, 881, 924, 957, 1000, 1043, 1096, 1129, 1162, 1195, 1218, 1297, 1350, 1393, 1426, 1449, 1482, 1515, 1558, 1591, 1651, 1721, 1808, 1841, 1874, 1927, 1940, 1953]) (len := 195) (off := 548) (tgt := 581) (by decide +kernel) (by rw [c80]; decide) (by rw [c80]; decide) (by rw [c80]; decide) (by decide) ?_
                      refine ev_seg (o := 11) (nL := 4) (q := 586) (xs := [(.aload_n 1, 1, 1, 0, .null), (.aload_n 0, 1, 0, 0, .null), (.iload_n 3, 1, 3, 0, .null), (.iconst 1, 1, 0, 0, .int 1), (.iadd, 1, 0, 0, .null)]) (L' := [some (.ref 0), some (.ref 2), some (.ref 93), some (.int x3)]) (st' := [.int (x3 + 1), .ref 0, .ref 2]) (w' := w) (g := []) (K := []) (by decide +kernel) rfl rfl rfl rfl jk0 ?_
                      obtain ⟨hg81, h⟩ := jgd h
                      refine ev_sld hLs (by decide +kernel) hg81 ?_
                      obtain ⟨q82, hq82, h⟩ := jbe h
                      refine ev_callV (ci := 9) (a := 2) (y2 := y_Count_step) (o := 11) (idx := 47) (d2 := d_Count_step) (n := 1) (mc2 := 0) (ms2 := 0) (As := [.int (xs (Int32.toNatClampNeg (x3 + 1)))]) (st := []) (res2 := (some (.int q82.1), jR0, q82.2)) (by decide +kernel) rfl lk_11_47 mo_Count_step mv_Count_step ⟨Nat.le_of_ble_eq_true rfl, Nat.le_of_ble_eq_true rfl⟩ rfl rfl kz_2 (by decide) rfl (Nat.le_of_ble_eq_true rfl) ⟨Nat.le_of_ble_eq_true rfl, Nat.le_of_ble_eq_true rfl⟩ hG (e_Count_step hG hq82) ?_
                      refine ev_seg (o := 11) (nL := 4) (q := 595) (xs := [(.aload_n 2, 1, 2, 0, .null), (.aload_n 0, 1, 0, 0, .null), (.iload_n 3, 1, 3, 0, .null), (.iconst 1, 1, 0, 0, .int 1), (.iadd, 1, 0, 0, .null)]) (L' := [some (.ref 0), some (.ref 2), some (.ref 93), some (.int x3)]) (st' := [.int (x3 + 1), .ref 0, .ref 93, .int q82.1]) (w' := q82.2) (g := []) (K := []) (by decide +kernel) rfl rfl rfl rfl jk0 ?_
                      obtain ⟨hg83, h⟩ := jgd h
                      refine ev_sld hLs (by decide +kernel) hg83 ?_
                      obtain ⟨q84, hq84, h⟩ := jbe h
                      refine ev_callV (ci := 10) (a := 93) (y2 := y_Model_step) (o := 11) (idx := 51) (d2 := d_Model_step) (n := 1) (mc2 := 0) (ms2 := 0) (As := [.int (xs (Int32.toNatClampNeg (x3 + 1)))]) (st := [.int q82.1]) (res2 := (some (.int q84.1), jR0, q84.2)) (by decide +kernel) rfl lk_11_51 mo_Model_step mv_Model_step ⟨Nat.le_of_ble_eq_true rfl, Nat.le_of_ble_eq_true rfl⟩ rfl rfl kz_93 (by decide) rfl (Nat.le_of_ble_eq_true rfl) ⟨Nat.le_of_ble_eq_true rfl, Nat.le_of_ble_eq_true rfl⟩ hG (e_Model_step hG hq84) ?_
                      refine ev_icmp_eq (off := 1410) (tgt := 2009) (by decide +kernel) (by decide) (fun c85 => ?_) (fun c85 => ?_)
                      · replace h := jpos c85 h
                        refine ev_seg (o := 11) (nL := 4) (q := 18) (xs := [(.iinc 3 8, 3, 3, 0, .int 8), (.goto (-1994), 3, 0, 0, .null)]) (L' := [some (.ref 0), some (.ref 2), some (.ref 93), some (.int (x3 + 8))]) (st' := []) (w' := q84.2) (g := []) (K := []) (by decide +kernel) rfl rfl rfl rfl jk0 ?_
                        refine ev_mask [true, true, true, true] ?_
                        exact ih _ _ _ h
                      · replace h := jneg c85 h
                        refine ev_seg (o := 11) (nL := 4) (q := 603) (xs := [(.iconst 0, 1, 0, 0, .int 0)]) (L' := [some (.ref 0), some (.ref 2), some (.ref 93), some (.int x3)]) (st' := [.int 0]) (w' := q84.2) (g := []) (K := []) (by decide +kernel) rfl rfl rfl rfl jk0 ?_
                        cases h
                        exact ev_zret (by decide +kernel) rfl rfl rfl rfl rfl
                    · replace h := jneg c80 h
                      by_cases c86 : ((xs (Int32.toNatClampNeg x3)) &&& 63) = 8
                      · replace h := jpos c86 h
                        refine ev_tableIn (dflt := 1976) (lo := 0) (hi := 44) (offs := #[195, 280, 323, 356, 419, 462, 515, 548, 571, 594, 617, 650, 683, 716, 779, 802, 825, 848, 881, 924, 957, 1000, 1043, 1096, 1129, 1162, 1195, 1218, 1297, 1350, 1393, 1426, 1449, 1482, 1515, 1558, 1591, 1651, 1721, 1808, 1841, 1874, 1927, 1940, 1953]) (len := 195) (off := 571) (tgt := 604) (by decide +kernel) (by rw [c86]; decide) (by rw [c86]; decide) (by rw [c86]; decide) (by decide) ?_
                        refine ev_seg (o := 11) (nL := 4) (q := 609) (xs := [(.aload_n 1, 1, 1, 0, .null), (.aload_n 0, 1, 0, 0, .null), (.iload_n 3, 1, 3, 0, .null), (.iconst 1, 1, 0, 0, .int 1), (.iadd, 1, 0, 0, .null)]) (L' := [some (.ref 0), some (.ref 2), some (.ref 93), some (.int x3)]) (st' := [.int (x3 + 1), .ref 0, .ref 2]) (w' := w) (g := []) (K := []) (by decide +kernel) rfl rfl rfl rfl jk0 ?_
                        obtain ⟨hg87, h⟩ := jgd h
                        refine ev_sld hLs (by decide +kernel) hg87 ?_
                        obtain ⟨q88, hq88, h⟩ := jbe h
                        refine ev_callV (ci := 9) (a := 2) (y2 := y_Count_seal) (o := 11) (idx := 52) (d2 := d_Count_seal) (n := 1) (mc2 := 0) (ms2 := 0) (As := [.int (xs (Int32.toNatClampNeg (x3 + 1)))]) (st := []) (res2 := (some (.int q88.1), jR0, q88.2)) (by decide +kernel) rfl lk_11_52 mo_Count_seal mv_Count_seal ⟨Nat.le_of_ble_eq_true rfl, Nat.le_of_ble_eq_true rfl⟩ rfl rfl kz_2 (by decide) rfl (Nat.le_of_ble_eq_true rfl) ⟨Nat.le_of_ble_eq_true rfl, Nat.le_of_ble_eq_true rfl⟩ hG (e_Count_seal hG hq88) ?_
                        refine ev_seg (o := 11) (nL := 4) (q := 618) (xs := [(.aload_n 2, 1, 2, 0, .null), (.aload_n 0, 1, 0, 0, .null), (.iload_n 3, 1, 3, 0, .null), (.iconst 1, 1, 0, 0, .int 1), (.iadd, 1, 0, 0, .null)]) (L' := [some (.ref 0), some (.ref 2), some (.ref 93), some (.int x3)]) (st' := [.int (x3 + 1), .ref 0, .ref 93, .int q88.1]) (w' := q88.2) (g := []) (K := []) (by decide +kernel) rfl rfl rfl rfl jk0 ?_
                        obtain ⟨hg89, h⟩ := jgd h
                        refine ev_sld hLs (by decide +kernel) hg89 ?_
                        obtain ⟨q90, hq90, h⟩ := jbe h
                        refine ev_callV (ci := 10) (a := 93) (y2 := y_Model_seal) (o := 11) (idx := 55) (d2 := d_Model_seal) (n := 1) (mc2 := 0) (ms2 := 0) (As := [.int (xs (Int32.toNatClampNeg (x3 + 1)))]) (st := [.int q88.1]) (res2 := (some (.int q90.1), jR0, q90.2)) (by decide +kernel) rfl lk_11_55 mo_Model_seal mv_Model_seal ⟨Nat.le_of_ble_eq_true rfl, Nat.le_of_ble_eq_true rfl⟩ rfl rfl kz_93 (by decide) rfl (Nat.le_of_ble_eq_true rfl) ⟨Nat.le_of_ble_eq_true rfl, Nat.le_of_ble_eq_true rfl⟩ hG (e_Model_seal hG hq90) ?_
                        refine ev_icmp_eq (off := 1387) (tgt := 2009) (by decide +kernel) (by decide) (fun c91 => ?_) (fun c91 => ?_)
                        · replace h := jpos c91 h
                          refine ev_seg (o := 11) (nL := 4) (q := 18) (xs := [(.iinc 3 8, 3, 3, 0, .int 8), (.goto (-1994), 3, 0, 0, .null)]) (L' := [some (.ref 0), some (.ref 2), some (.ref 93), some (.int (x3 + 8))]) (st' := []) (w' := q90.2) (g := []) (K := []) (by decide +kernel) rfl rfl rfl rfl jk0 ?_
                          refine ev_mask [true, true, true, true] ?_
                          exact ih _ _ _ h
                        · replace h := jneg c91 h
                          refine ev_seg (o := 11) (nL := 4) (q := 626) (xs := [(.iconst 0, 1, 0, 0, .int 0)]) (L' := [some (.ref 0), some (.ref 2), some (.ref 93), some (.int x3)]) (st' := [.int 0]) (w' := q90.2) (g := []) (K := []) (by decide +kernel) rfl rfl rfl rfl jk0 ?_
                          cases h
                          exact ev_zret (by decide +kernel) rfl rfl rfl rfl rfl
                      · replace h := jneg c86 h
                        by_cases c92 : ((xs (Int32.toNatClampNeg x3)) &&& 63) = 9
                        · replace h := jpos c92 h
                          refine ev_tableIn (dflt := 1976) (lo := 0) (hi := 44) (offs := #[195, 280, 323, 356, 419, 462, 515, 548, 571, 594, 617, 650, 683, 716, 779, 802, 825, 848, 881, 924, 957, 1000, 1043, 1096, 1129, 1162, 1195, 1218, 1297, 1350, 1393, 1426, 1449, 1482, 1515, 1558, 1591, 1651, 1721, 1808, 1841, 1874, 1927, 1940, 1953]) (len := 195) (off := 594) (tgt := 627) (by decide +kernel) (by rw [c92]; decide) (by rw [c92]; decide) (by rw [c92]; decide) (by decide) ?_
                          refine ev_seg (o := 11) (nL := 4) (q := 632) (xs := [(.aload_n 1, 1, 1, 0, .null), (.aload_n 0, 1, 0, 0, .null), (.iload_n 3, 1, 3, 0, .null), (.iconst 1, 1, 0, 0, .int 1), (.iadd, 1, 0, 0, .null)]) (L' := [some (.ref 0), some (.ref 2), some (.ref 93), some (.int x3)]) (st' := [.int (x3 + 1), .ref 0, .ref 2]) (w' := w) (g := []) (K := []) (by decide +kernel) rfl rfl rfl rfl jk0 ?_
                          obtain ⟨hg93, h⟩ := jgd h
                          refine ev_sld hLs (by decide +kernel) hg93 ?_
                          obtain ⟨q94, hq94, h⟩ := jbe h
                          refine ev_callV (ci := 9) (a := 2) (y2 := y_Count_days) (o := 11) (idx := 56) (d2 := d_Count_days) (n := 1) (mc2 := 0) (ms2 := 0) (As := [.int (xs (Int32.toNatClampNeg (x3 + 1)))]) (st := []) (res2 := (some (.int q94.1), jR0, q94.2)) (by decide +kernel) rfl lk_11_56 mo_Count_days mv_Count_days ⟨Nat.le_of_ble_eq_true rfl, Nat.le_of_ble_eq_true rfl⟩ rfl rfl kz_2 (by decide) rfl (Nat.le_of_ble_eq_true rfl) ⟨Nat.le_of_ble_eq_true rfl, Nat.le_of_ble_eq_true rfl⟩ hG (e_Count_days hG hq94) ?_
                          refine ev_seg (o := 11) (nL := 4) (q := 641) (xs := [(.aload_n 2, 1, 2, 0, .null), (.aload_n 0, 1, 0, 0, .null), (.iload_n 3, 1, 3, 0, .null), (.iconst 1, 1, 0, 0, .int 1), (.iadd, 1, 0, 0, .null)]) (L' := [some (.ref 0), some (.ref 2), some (.ref 93), some (.int x3)]) (st' := [.int (x3 + 1), .ref 0, .ref 93, .int q94.1]) (w' := q94.2) (g := []) (K := []) (by decide +kernel) rfl rfl rfl rfl jk0 ?_
                          obtain ⟨hg95, h⟩ := jgd h
                          refine ev_sld hLs (by decide +kernel) hg95 ?_
                          obtain ⟨q96, hq96, h⟩ := jbe h
                          refine ev_callV (ci := 10) (a := 93) (y2 := y_Model_days) (o := 11) (idx := 59) (d2 := d_Model_days) (n := 1) (mc2 := 0) (ms2 := 0) (As := [.int (xs (Int32.toNatClampNeg (x3 + 1)))]) (st := [.int q94.1]) (res2 := (some (.int q96.1), jR0, q96.2)) (by decide +kernel) rfl lk_11_59 mo_Model_days mv_Model_days ⟨Nat.le_of_ble_eq_true rfl, Nat.le_of_ble_eq_true rfl⟩ rfl rfl kz_93 (by decide) rfl (Nat.le_of_ble_eq_true rfl) ⟨Nat.le_of_ble_eq_true rfl, Nat.le_of_ble_eq_true rfl⟩ hG (e_Model_days hG hq96) ?_
                          refine ev_icmp_eq (off := 1364) (tgt := 2009) (by decide +kernel) (by decide) (fun c97 => ?_) (fun c97 => ?_)
                          · replace h := jpos c97 h
                            refine ev_seg (o := 11) (nL := 4) (q := 18) (xs := [(.iinc 3 8, 3, 3, 0, .int 8), (.goto (-1994), 3, 0, 0, .null)]) (L' := [some (.ref 0), some (.ref 2), some (.ref 93), some (.int (x3 + 8))]) (st' := []) (w' := q96.2) (g := []) (K := []) (by decide +kernel) rfl rfl rfl rfl jk0 ?_
                            refine ev_mask [true, true, true, true] ?_
                            exact ih _ _ _ h
                          · replace h := jneg c97 h
                            refine ev_seg (o := 11) (nL := 4) (q := 649) (xs := [(.iconst 0, 1, 0, 0, .int 0)]) (L' := [some (.ref 0), some (.ref 2), some (.ref 93), some (.int x3)]) (st' := [.int 0]) (w' := q96.2) (g := []) (K := []) (by decide +kernel) rfl rfl rfl rfl jk0 ?_
                            cases h
                            exact ev_zret (by decide +kernel) rfl rfl rfl rfl rfl
                        · replace h := jneg c92 h
                          by_cases c98 : ((xs (Int32.toNatClampNeg x3)) &&& 63) = 10
                          · replace h := jpos c98 h
                            refine ev_tableIn (dflt := 1976) (lo := 0) (hi := 44) (offs := #[195, 280, 323, 356, 419, 462, 515, 548, 571, 594, 617, 650, 683, 716, 779, 802, 825, 848, 881, 924, 957, 1000, 1043, 1096, 1129, 1162, 1195, 1218, 1297, 1350, 1393, 1426, 1449, 1482, 1515, 1558, 1591, 1651, 1721, 1808, 1841, 1874, 1927, 1940, 1953]) (len := 195) (off := 617) (tgt := 650) (by decide +kernel) (by rw [c98]; decide) (by rw [c98]; decide) (by rw [c98]; decide) (by decide) ?_
                            refine ev_seg (o := 11) (nL := 4) (q := 655) (xs := [(.aload_n 1, 1, 1, 0, .null), (.aload_n 0, 1, 0, 0, .null), (.iload_n 3, 1, 3, 0, .null), (.iconst 1, 1, 0, 0, .int 1), (.iadd, 1, 0, 0, .null)]) (L' := [some (.ref 0), some (.ref 2), some (.ref 93), some (.int x3)]) (st' := [.int (x3 + 1), .ref 0, .ref 2]) (w' := w) (g := []) (K := []) (by decide +kernel) rfl rfl rfl rfl jk0 ?_
                            obtain ⟨hg99, h⟩ := jgd h
                            refine ev_sld hLs (by decide +kernel) hg99 ?_
                            refine ev_seg (o := 11) (nL := 4) (q := 660) (xs := [(.aload_n 0, 1, 0, 0, .null), (.iload_n 3, 1, 3, 0, .null), (.iconst 2, 1, 0, 0, .int 2), (.iadd, 1, 0, 0, .null)]) (L' := [some (.ref 0), some (.ref 2), some (.ref 93), some (.int x3)]) (st' := [.int (x3 + 2), .ref 0, .int (xs (Int32.toNatClampNeg (x3 + 1))), .ref 2]) (w' := w) (g := []) (K := []) (by decide +kernel) rfl rfl rfl rfl jk0 ?_
                            obtain ⟨hg100, h⟩ := jgd h
                            refine ev_sld hLs (by decide +kernel) hg100 ?_
                            obtain ⟨q101, hq101, h⟩ := jbe h
                            refine ev_callV (ci := 9) (a := 2) (y2 := y_Count_where) (o := 11) (idx := 60) (d2 := d_Count_where) (n := 2) (mc2 := 0) (ms2 := 0) (As := [.int (xs (Int32.toNatClampNeg (x3 + 1))), .int (xs (Int32.toNatClampNeg (x3 + 2)))]) (st := []) (res2 := (some (.int q101.1), jR0, q101.2)) (by decide +kernel) rfl lk_11_60 mo_Count_where mv_Count_where ⟨Nat.le_of_ble_eq_true rfl, Nat.le_of_ble_eq_true rfl⟩ rfl rfl kz_2 (by decide) rfl (Nat.le_of_ble_eq_true rfl) ⟨Nat.le_of_ble_eq_true rfl, Nat.le_of_ble_eq_true rfl⟩ hG (e_Count_where hG hq101) ?_
                            refine ev_seg (o := 11) (nL := 4) (q := 669) (xs := [(.aload_n 2, 1, 2, 0, .null), (.aload_n 0, 1, 0, 0, .null), (.iload_n 3, 1, 3, 0, .null), (.iconst 1, 1, 0, 0, .int 1), (.iadd, 1, 0, 0, .null)]) (L' := [some (.ref 0), some (.ref 2), some (.ref 93), some (.int x3)]) (st' := [.int (x3 + 1), .ref 0, .ref 93, .int q101.1]) (w' := q101.2) (g := []) (K := []) (by decide +kernel) rfl rfl rfl rfl jk0 ?_
                            obtain ⟨hg102, h⟩ := jgd h
                            refine ev_sld hLs (by decide +kernel) hg102 ?_
                            refine ev_seg (o := 11) (nL := 4) (q := 674) (xs := [(.aload_n 0, 1, 0, 0, .null), (.iload_n 3, 1, 3, 0, .null), (.iconst 2, 1, 0, 0, .int 2), (.iadd, 1, 0, 0, .null)]) (L' := [some (.ref 0), some (.ref 2), some (.ref 93), some (.int x3)]) (st' := [.int (x3 + 2), .ref 0, .int (xs (Int32.toNatClampNeg (x3 + 1))), .ref 93, .int q101.1]) (w' := q101.2) (g := []) (K := []) (by decide +kernel) rfl rfl rfl rfl jk0 ?_
                            obtain ⟨hg103, h⟩ := jgd h
                            refine ev_sld hLs (by decide +kernel) hg103 ?_
                            obtain ⟨q104, hq104, h⟩ := jbe h
                            refine ev_callV (ci := 10) (a := 93) (y2 := y_Model_where) (o := 11) (idx := 63) (d2 := d_Model_where) (n := 2) (mc2 := 0) (ms2 := 0) (As := [.int (xs (Int32.toNatClampNeg (x3 + 1))), .int (xs (Int32.toNatClampNeg (x3 + 2)))]) (st := [.int q101.1]) (res2 := (some (.int q104.1), jR0, q104.2)) (by decide +kernel) rfl lk_11_63 mo_Model_where mv_Model_where ⟨Nat.le_of_ble_eq_true rfl, Nat.le_of_ble_eq_true rfl⟩ rfl rfl kz_93 (by decide) rfl (Nat.le_of_ble_eq_true rfl) ⟨Nat.le_of_ble_eq_true rfl, Nat.le_of_ble_eq_true rfl⟩ hG (e_Model_where hG hq104) ?_
                            refine ev_icmp_eq (off := 1331) (tgt := 2009) (by decide +kernel) (by decide) (fun c105 => ?_) (fun c105 => ?_)
                            · replace h := jpos c105 h
                              refine ev_seg (o := 11) (nL := 4) (q := 18) (xs := [(.iinc 3 8, 3, 3, 0, .int 8), (.goto (-1994), 3, 0, 0, .null)]) (L' := [some (.ref 0), some (.ref 2), some (.ref 93), some (.int (x3 + 8))]) (st' := []) (w' := q104.2) (g := []) (K := []) (by decide +kernel) rfl rfl rfl rfl jk0 ?_
                              refine ev_mask [true, true, true, true] ?_
                              exact ih _ _ _ h
                            · replace h := jneg c105 h
                              refine ev_seg (o := 11) (nL := 4) (q := 682) (xs := [(.iconst 0, 1, 0, 0, .int 0)]) (L' := [some (.ref 0), some (.ref 2), some (.ref 93), some (.int x3)]) (st' := [.int 0]) (w' := q104.2) (g := []) (K := []) (by decide +kernel) rfl rfl rfl rfl jk0 ?_
                              cases h
                              exact ev_zret (by decide +kernel) rfl rfl rfl rfl rfl
                          · replace h := jneg c98 h
                            by_cases c106 : ((xs (Int32.toNatClampNeg x3)) &&& 63) = 11
                            · replace h := jpos c106 h
                              refine ev_tableIn (dflt := 1976) (lo := 0) (hi := 44) (offs := #[195, 280, 323, 356, 419, 462, 515, 548, 571, 594, 617, 650, 683, 716, 779, 802, 825, 848, 881, 924, 957, 1000, 1043, 1096, 1129, 1162, 1195, 1218, 1297, 1350, 1393, 1426, 1449, 1482, 1515, 1558, 1591, 1651, 1721, 1808, 1841, 1874, 1927, 1940, 1953]) (len := 195) (off := 650) (tgt := 683) (by decide +kernel) (by rw [c106]; decide) (by rw [c106]; decide) (by rw [c106]; decide) (by decide) ?_
                              refine ev_seg (o := 11) (nL := 4) (q := 688) (xs := [(.aload_n 1, 1, 1, 0, .null), (.aload_n 0, 1, 0, 0, .null), (.iload_n 3, 1, 3, 0, .null), (.iconst 1, 1, 0, 0, .int 1), (.iadd, 1, 0, 0, .null)]) (L' := [some (.ref 0), some (.ref 2), some (.ref 93), some (.int x3)]) (st' := [.int (x3 + 1), .ref 0, .ref 2]) (w' := w) (g := []) (K := []) (by decide +kernel) rfl rfl rfl rfl jk0 ?_
                              obtain ⟨hg107, h⟩ := jgd h
                              refine ev_sld hLs (by decide +kernel) hg107 ?_
                              refine ev_seg (o := 11) (nL := 4) (q := 693) (xs := [(.aload_n 0, 1, 0, 0, .null), (.iload_n 3, 1, 3, 0, .null), (.iconst 2, 1, 0, 0, .int 2), (.iadd, 1, 0, 0, .null)]) (L' := [some (.ref 0), some (.ref 2), some (.ref 93), some (.int x3)]) (st' := [.int (x3 + 2), .ref 0, .int (xs (Int32.toNatClampNeg (x3 + 1))), .ref 2]) (w' := w) (g := []) (K := []) (by decide +kernel) rfl rfl rfl rfl jk0 ?_
                              obtain ⟨hg108, h⟩ := jgd h
                              refine ev_sld hLs (by decide +kernel) hg108 ?_
                              obtain ⟨q109, hq109, h⟩ := jbe h
                              refine ev_callV (ci := 9) (a := 2) (y2 := y_Count_thing) (o := 11) (idx := 64) (d2 := d_Count_thing) (n := 2) (mc2 := 0) (ms2 := 0) (As := [.int (xs (Int32.toNatClampNeg (x3 + 1))), .int (xs (Int32.toNatClampNeg (x3 + 2)))]) (st := []) (res2 := (some (.int q109.1), jR0, q109.2)) (by decide +kernel) rfl lk_11_64 mo_Count_thing mv_Count_thing ⟨Nat.le_of_ble_eq_true rfl, Nat.le_of_ble_eq_true rfl⟩ rfl rfl kz_2 (by decide) rfl (Nat.le_of_ble_eq_true rfl) ⟨Nat.le_of_ble_eq_true rfl, Nat.le_of_ble_eq_true rfl⟩ hG (e_Count_thing hG hq109) ?_
                              refine ev_seg (o := 11) (nL := 4) (q := 702) (xs := [(.aload_n 2, 1, 2, 0, .null), (.aload_n 0, 1, 0, 0, .null), (.iload_n 3, 1, 3, 0, .null), (.iconst 1, 1, 0, 0, .int 1), (.iadd, 1, 0, 0, .null)]) (L' := [some (.ref 0), some (.ref 2), some (.ref 93), some (.int x3)]) (st' := [.int (x3 + 1), .ref 0, .ref 93, .int q109.1]) (w' := q109.2) (g := []) (K := []) (by decide +kernel) rfl rfl rfl rfl jk0 ?_
                              obtain ⟨hg110, h⟩ := jgd h
                              refine ev_sld hLs (by decide +kernel) hg110 ?_
                              refine ev_seg (o := 11) (nL := 4) (q := 707) (xs := [(.aload_n 0, 1, 0, 0, .null), (.iload_n 3, 1, 3, 0, .null), (.iconst 2, 1, 0, 0, .int 2), (.iadd, 1, 0, 0, .null)]) (L' := [some (.ref 0), some (.ref 2), some (.ref 93), some (.int x3)]) (st' := [.int (x3 + 2), .ref 0, .int (xs (Int32.toNatClampNeg (x3 + 1))), .ref 93, .int q109.1]) (w' := q109.2) (g := []) (K := []) (by decide +kernel) rfl rfl rfl rfl jk0 ?_
                              obtain ⟨hg111, h⟩ := jgd h
                              refine ev_sld hLs (by decide +kernel) hg111 ?_
                              obtain ⟨q112, hq112, h⟩ := jbe h
                              refine ev_callV (ci := 10) (a := 93) (y2 := y_Model_thing) (o := 11) (idx := 67) (d2 := d_Model_thing) (n := 2) (mc2 := 0) (ms2 := 0) (As := [.int (xs (Int32.toNatClampNeg (x3 + 1))), .int (xs (Int32.toNatClampNeg (x3 + 2)))]) (st := [.int q109.1]) (res2 := (some (.int q112.1), jR0, q112.2)) (by decide +kernel) rfl lk_11_67 mo_Model_thing mv_Model_thing ⟨Nat.le_of_ble_eq_true rfl, Nat.le_of_ble_eq_true rfl⟩ rfl rfl kz_93 (by decide) rfl (Nat.le_of_ble_eq_true rfl) ⟨Nat.le_of_ble_eq_true rfl, Nat.le_of_ble_eq_true rfl⟩ hG (e_Model_thing hG hq112) ?_
                              refine ev_icmp_eq (off := 1298) (tgt := 2009) (by decide +kernel) (by decide) (fun c113 => ?_) (fun c113 => ?_)
                              · replace h := jpos c113 h
                                refine ev_seg (o := 11) (nL := 4) (q := 18) (xs := [(.iinc 3 8, 3, 3, 0, .int 8), (.goto (-1994), 3, 0, 0, .null)]) (L' := [some (.ref 0), some (.ref 2), some (.ref 93), some (.int (x3 + 8))]) (st' := []) (w' := q112.2) (g := []) (K := []) (by decide +kernel) rfl rfl rfl rfl jk0 ?_
                                refine ev_mask [true, true, true, true] ?_
                                exact ih _ _ _ h
                              · replace h := jneg c113 h
                                refine ev_seg (o := 11) (nL := 4) (q := 715) (xs := [(.iconst 0, 1, 0, 0, .int 0)]) (L' := [some (.ref 0), some (.ref 2), some (.ref 93), some (.int x3)]) (st' := [.int 0]) (w' := q112.2) (g := []) (K := []) (by decide +kernel) rfl rfl rfl rfl jk0 ?_
                                cases h
                                exact ev_zret (by decide +kernel) rfl rfl rfl rfl rfl
                            · replace h := jneg c106 h
                              by_cases c114 : ((xs (Int32.toNatClampNeg x3)) &&& 63) = 12
                              · replace h := jpos c114 h
                                refine ev_tableIn (dflt := 1976) (lo := 0) (hi := 44) (offs := #[195, 280, 323, 356, 419, 462, 515, 548, 571, 594, 617, 650, 683, 716, 779, 802, 825, 848, 881, 924, 957, 1000, 1043, 1096, 1129, 1162, 1195, 1218, 1297, 1350, 1393, 1426, 1449, 1482, 1515, 1558, 1591, 1651, 1721, 1808, 1841, 1874, 1927, 1940, 1953]) (len := 195) (off := 683) (tgt := 716) (by decide +kernel) (by rw [c114]; decide) (by rw [c114]; decide) (by rw [c114]; decide) (by decide) ?_
                                refine ev_seg (o := 11) (nL := 4) (q := 721) (xs := [(.aload_n 1, 1, 1, 0, .null), (.aload_n 0, 1, 0, 0, .null), (.iload_n 3, 1, 3, 0, .null), (.iconst 1, 1, 0, 0, .int 1), (.iadd, 1, 0, 0, .null)]) (L' := [some (.ref 0), some (.ref 2), some (.ref 93), some (.int x3)]) (st' := [.int (x3 + 1), .ref 0, .ref 2]) (w' := w) (g := []) (K := []) (by decide +kernel) rfl rfl rfl rfl jk0 ?_
                                obtain ⟨hg115, h⟩ := jgd h
                                refine ev_sld hLs (by decide +kernel) hg115 ?_
                                refine ev_seg (o := 11) (nL := 4) (q := 726) (xs := [(.aload_n 0, 1, 0, 0, .null), (.iload_n 3, 1, 3, 0, .null), (.iconst 2, 1, 0, 0, .int 2), (.iadd, 1, 0, 0, .null)]) (L' := [some (.ref 0), some (.ref 2), some (.ref 93), some (.int x3)]) (st' := [.int (x3 + 2), .ref 0, .int (xs (Int32.toNatClampNeg (x3 + 1))), .ref 2]) (w' := w) (g := []) (K := []) (by decide +kernel) rfl rfl rfl rfl jk0 ?_
                                obtain ⟨hg116, h⟩ := jgd h
                                refine ev_sld hLs (by decide +kernel) hg116 ?_
                                obtain ⟨q117, hq117, h⟩ := jbe h
                                refine ev_callV (ci := 9) (a := 2) (y2 := y_Count_whole) (o := 11) (idx := 68) (d2 := d_Count_whole) (n := 2) (mc2 := 0) (ms2 := 0) (As := [.int (xs (Int32.toNatClampNeg (x3 + 1))), .int (xs (Int32.toNatClampNeg (x3 + 2)))]) (st := []) (res2 := (some (.int q117.1), jR0, q117.2)) (by decide +kernel) rfl lk_11_68 mo_Count_whole mv_Count_whole ⟨Nat.le_of_ble_eq_true rfl, Nat.le_of_ble_eq_true rfl⟩ rfl rfl kz_2 (by decide) rfl (Nat.le_of_ble_eq_true rfl) ⟨Nat.le_of_ble_eq_true rfl, Nat.le_of_ble_eq_true rfl⟩ hG (e_Count_whole hG hq117) ?_
                                refine ev_seg (o := 11) (nL := 4) (q := 735) (xs := [(.aload_n 2, 1, 2, 0, .null), (.aload_n 0, 1, 0, 0, .null), (.iload_n 3, 1, 3, 0, .null), (.iconst 1, 1, 0, 0, .int 1), (.iadd, 1, 0, 0, .null)]) (L' := [some (.ref 0), some (.ref 2), some (.ref 93), some (.int x3)]) (st' := [.int (x3 + 1), .ref 0, .ref 93, .int q117.1]) (w' := q117.2) (g := []) (K := []) (by decide +kernel) rfl rfl rfl rfl jk0 ?_
                                obtain ⟨hg118, h⟩ := jgd h
                                refine ev_sld hLs (by decide +kernel) hg118 ?_
                                refine ev_seg (o := 11) (nL := 4) (q := 740) (xs := [(.aload_n 0, 1, 0, 0, .null), (.iload_n 3, 1, 3, 0, .null), (.iconst 2, 1, 0, 0, .int 2), (.iadd, 1, 0, 0, .null)]) (L' := [some (.ref 0), some (.ref 2), some (.ref 93), some (.int x3)]) (st' := [.int (x3 + 2), .ref 0, .int (xs (Int32.toNatClampNeg (x3 + 1))), .ref 93, .int q117.1]) (w' := q117.2) (g := []) (K := []) (by decide +kernel) rfl rfl rfl rfl jk0 ?_
                                obtain ⟨hg119, h⟩ := jgd h
                                refine ev_sld hLs (by decide +kernel) hg119 ?_
                                obtain ⟨q120, hq120, h⟩ := jbe h
                                refine ev_callV (ci := 10) (a := 93) (y2 := y_Model_whole0) (o := 11) (idx := 71) (d2 := d_Model_whole0) (n := 2) (mc2 := 0) (ms2 := 0) (As := [.int (xs (Int32.toNatClampNeg (x3 + 1))), .int (xs (Int32.toNatClampNeg (x3 + 2)))]) (st := [.int q117.1]) (res2 := (some (.int q120.1), jR0, q120.2)) (by decide +kernel) rfl lk_11_71 mo_Model_whole0 mv_Model_whole0 ⟨Nat.le_of_ble_eq_true rfl, Nat.le_of_ble_eq_true rfl⟩ rfl rfl kz_93 (by decide) rfl (Nat.le_of_ble_eq_true rfl) ⟨Nat.le_of_ble_eq_true rfl, Nat.le_of_ble_eq_true rfl⟩ hG (e_Model_whole0 hG hq120) ?_
                                refine ev_icmp_eq (off := 1265) (tgt := 2009) (by decide +kernel) (by decide) (fun c121 => ?_) (fun c121 => ?_)
                                · replace h := jpos c121 h
                                  refine ev_seg (o := 11) (nL := 4) (q := 18) (xs := [(.iinc 3 8, 3, 3, 0, .int 8), (.goto (-1994), 3, 0, 0, .null)]) (L' := [some (.ref 0), some (.ref 2), some (.ref 93), some (.int (x3 + 8))]) (st' := []) (w' := q120.2) (g := []) (K := []) (by decide +kernel) rfl rfl rfl rfl jk0 ?_
                                  refine ev_mask [true, true, true, true] ?_
                                  exact ih _ _ _ h
                                · replace h := jneg c121 h
                                  refine ev_seg (o := 11) (nL := 4) (q := 748) (xs := [(.iconst 0, 1, 0, 0, .int 0)]) (L' := [some (.ref 0), some (.ref 2), some (.ref 93), some (.int x3)]) (st' := [.int 0]) (w' := q120.2) (g := []) (K := []) (by decide +kernel) rfl rfl rfl rfl jk0 ?_
                                  cases h
                                  exact ev_zret (by decide +kernel) rfl rfl rfl rfl rfl
                              · replace h := jneg c114 h
                                by_cases c122 : ((xs (Int32.toNatClampNeg x3)) &&& 63) = 13
                                · replace h := jpos c122 h
                                  refine ev_tableIn (dflt := 1976) (lo := 0) (hi := 44) (offs := #[195, 280, 323, 356, 419, 462, 515, 548, 571, 594, 617, 650, 683, 716, 779, 802, 825, 848, 881, 924, 957, 1000, 1043, 1096, 1129, 1162, 1195, 1218, 1297, 1350, 1393, 1426, 1449, 1482, 1515, 1558, 1591, 1651, 1721, 1808, 1841, 1874, 1927, 1940, 1953]) (len := 195) (off := 716) (tgt := 749) (by decide +kernel) (by rw [c122]; decide) (by rw [c122]; decide) (by rw [c122]; decide) (by decide) ?_
                                  refine ev_seg (o := 11) (nL := 4) (q := 754) (xs := [(.aload_n 1, 1, 1, 0, .null), (.aload_n 0, 1, 0, 0, .null), (.iload_n 3, 1, 3, 0, .null), (.iconst 1, 1, 0, 0, .int 1), (.iadd, 1, 0, 0, .null)]) (L' := [some (.ref 0), some (.ref 2), some (.ref 93), some (.int x3)]) (st' := [.int (x3 + 1), .ref 0, .ref 2]) (w' := w) (g := []) (K := []) (by decide +kernel) rfl rfl rfl rfl jk0 ?_
                                  obtain ⟨hg123, h⟩ := jgd h
                                  refine ev_sld hLs (by decide +kernel) hg123 ?_
                                  refine ev_seg (o := 11) (nL := 4) (q := 759) (xs := [(.aload_n 0, 1, 0, 0, .null), (.iload_n 3, 1, 3, 0, .null), (.iconst 2, 1, 0, 0, .int 2), (.iadd, 1, 0, 0, .null)]) (L' := [some (.ref 0), some (.ref 2), some (.ref 93), some (.int x3)]) (st' := [.int (x3 + 2), .ref 0, .int (xs (Int32.toNatClampNeg (x3 + 1))), .ref 2]) (w' := w) (g := []) (K := []) (by decide +kernel) rfl rfl rfl rfl jk0 ?_
                                  obtain ⟨hg124, h⟩ := jgd h
                                  refine ev_sld hLs (by decide +kernel) hg124 ?_
                                  refine ev_seg (o := 11) (nL := 4) (q := 764) (xs := [(.aload_n 0, 1, 0, 0, .null), (.iload_n 3, 1, 3, 0, .null), (.iconst 3, 1, 0, 0, .int 3), (.iadd, 1, 0, 0, .null)]) (L' := [some (.ref 0), some (.ref 2), some (.ref 93), some (.int x3)]) (st' := [.int (x3 + 3), .ref 0, .int (xs (Int32.toNatClampNeg (x3 + 2))), .int (xs (Int32.toNatClampNeg (x3 + 1))), .ref 2]) (w' := w) (g := []) (K := []) (by decide +kernel) rfl rfl rfl rfl jk0 ?_
                                  obtain ⟨hg125, h⟩ := jgd h
                                  refine ev_sld hLs (by decide +kernel) hg125 ?_
                                  refine ev_seg (o := 11) (nL := 4) (q := 769) (xs := [(.aload_n 0, 1, 0, 0, .null), (.iload_n 3, 1, 3, 0, .null), (.iconst 4, 1, 0, 0, .int 4), (.iadd, 1, 0, 0, .null)]) (L' := [some (.ref 0), some (.ref 2), some (.ref 93), some (.int x3)]) (st' := [.int (x3 + 4), .ref 0, .int (xs (Int32.toNatClampNeg (x3 + 3))), .int (xs (Int32.toNatClampNeg (x3 + 2))), .int (xs (Int32.toNatClampNeg (x3 + 1))), .ref 2]) (w' := w) (g := []) (K := []) (by decide +kernel) rfl rfl rfl rfl jk0 ?_
                                  obtain ⟨hg126, h⟩ := jgd h
                                  refine ev_sld hLs (by decide +kernel) hg126 ?_
                                  refine ev_seg (o := 11) (nL := 4) (q := 774) (xs := [(.aload_n 0, 1, 0, 0, .null), (.iload_n 3, 1, 3, 0, .null), (.iconst 5, 1, 0, 0, .int 5), (.iadd, 1, 0, 0, .null)]) (L' := [some (.ref 0), some (.ref 2), some (.ref 93), some (.int x3)]) (st' := [.int (x3 + 5), .ref 0, .int (xs (Int32.toNatClampNeg (x3 + 4))), .int (xs (Int32.toNatClampNeg (x3 + 3))), .int (xs (Int32.toNatClampNeg (x3 + 2))), .int (xs (Int32.toNatClampNeg (x3 + 1))), .ref 2]) (w' := w) (g := []) (K := []) (by decide +kernel) rfl rfl rfl rfl jk0 ?_
                                  obtain ⟨hg127, h⟩ := jgd h
                                  refine ev_sld hLs (by decide +kernel) hg127 ?_
                                  obtain ⟨q128, hq128, h⟩ := jbe h
                                  refine ev_callV (ci := 9) (a := 2) (y2 := y_Count_feed) (o := 11) (idx := 72) (d2 := d_Count_feed) (n := 5) (mc2 := 0) (ms2 := 0) (As := [.int (xs (Int32.toNatClampNeg (x3 + 1))), .int (xs (Int32.toNatClampNeg (x3 + 2))), .int (xs (Int32.toNatClampNeg (x3 + 3))), .int (xs (Int32.toNatClampNeg (x3 + 4))), .int (xs (Int32.toNatClampNeg (x3 + 5)))]) (st := []) (res2 := (some (.int q128.1), jR0, q128.2)) (by decide +kernel) rfl lk_11_72 mo_Count_feed mv_Count_feed ⟨Nat.le_of_ble_eq_true rfl, Nat.le_of_ble_eq_true rfl⟩ rfl rfl kz_2 (by decide) rfl (Nat.le_of_ble_eq_true rfl) ⟨Nat.le_of_ble_eq_true rfl, Nat.le_of_ble_eq_true rfl⟩ hG (e_Count_feed hG hq128) ?_
                                  refine ev_seg (o := 11) (nL := 4) (q := 783) (xs := [(.aload_n 2, 1, 2, 0, .null), (.aload_n 0, 1, 0, 0, .null), (.iload_n 3, 1, 3, 0, .null), (.iconst 1, 1, 0, 0, .int 1), (.iadd, 1, 0, 0, .null)]) (L' := [some (.ref 0), some (.ref 2), some (.ref 93), some (.int x3)]) (st' := [.int (x3 + 1), .ref 0, .ref 93, .int q128.1]) (w' := q128.2) (g := []) (K := []) (by decide +kernel) rfl rfl rfl rfl jk0 ?_
                                  obtain ⟨hg129, h⟩ := jgd h
                                  refine ev_sld hLs (by decide +kernel) hg129 ?_
                                  refine ev_seg (o := 11) (nL := 4) (q := 788) (xs := [(.aload_n 0, 1, 0, 0, .null), (.iload_n 3, 1, 3, 0, .null), (.iconst 2, 1, 0, 0, .int 2), (.iadd, 1, 0, 0, .null)]) (L' := [some (.ref 0), some (.ref 2), some (.ref 93), some (.int x3)]) (st' := [.int (x3 + 2), .ref 0, .int (xs (Int32.toNatClampNeg (x3 + 1))), .ref 93, .int q128.1]) (w' := q128.2) (g := []) (K := []) (by decide +kernel) rfl rfl rfl rfl jk0 ?_
                                  obtain ⟨hg130, h⟩ := jgd h
                                  refine ev_sld hLs (by decide +kernel) hg130 ?_
                                  refine ev_seg (o := 11) (nL := 4) (q := 793) (xs := [(.aload_n 0, 1, 0, 0, .null), (.iload_n 3, 1, 3, 0, .null), (.iconst 3, 1, 0, 0, .int 3), (.iadd, 1, 0, 0, .null)]) (L' := [some (.ref 0), some (.ref 2), some (.ref 93), some (.int x3)]) (st' := [.int (x3 + 3), .ref 0, .int (xs (Int32.toNatClampNeg (x3 + 2))), .int (xs (Int32.toNatClampNeg (x3 + 1))), .ref 93, .int q128.1]) (w' := q128.2) (g := []) (K := []) (by decide +kernel) rfl rfl rfl rfl jk0 ?_
                                  obtain ⟨hg131, h⟩ := jgd h
                                  refine ev_sld hLs (by decide +kernel) hg131 ?_
                                  refine ev_seg (o := 11) (nL := 4) (q := 798) (xs := [(.aload_n 0, 1, 0, 0, .null), (.iload_n 3, 1, 3, 0, .null), (.iconst 4, 1, 0, 0, .int 4), (.iadd, 1, 0, 0, .null)]) (L' := [some (.ref 0), some (.ref 2), some (.ref 93), some (.int x3)]) (st' := [.int (x3 + 4), .ref 0, .int (xs (Int32.toNatClampNeg (x3 + 3))), .int (xs (Int32.toNatClampNeg (x3 + 2))), .int (xs (Int32.toNatClampNeg (x3 + 1))), .ref 93, .int q128.1]) (w' := q128.2) (g := []) (K := []) (by decide +kernel) rfl rfl rfl rfl jk0 ?_
                                  obtain ⟨hg132, h⟩ := jgd h
                                  refine ev_sld hLs (by decide +kernel) hg132 ?_
                                  refine ev_seg (o := 11) (nL := 4) (q := 803) (xs := [(.aload_n 0, 1, 0, 0, .null), (.iload_n 3, 1, 3, 0, .null), (.iconst 5, 1, 0, 0, .int 5), (.iadd, 1, 0, 0, .null)]) (L' := [some (.ref 0), some (.ref 2), some (.ref 93), some (.int x3)]) (st' := [.int (x3 + 5), .ref 0, .int (xs (Int32.toNatClampNeg (x3 + 4))), .int (xs (Int32.toNatClampNeg (x3 + 3))), .int (xs (Int32.toNatClampNeg (x3 + 2))), .int (xs (Int32.toNatClampNeg (x3 + 1))), .ref 93, .int q128.1]) (w' := q128.2) (g := []) (K := []) (by decide +kernel) rfl rfl rfl rfl jk0 ?_
                                  obtain ⟨hg133, h⟩ := jgd h
                                  refine ev_sld hLs (by decide +kernel) hg133 ?_
                                  obtain ⟨q134, hq134, h⟩ := jbe h
                                  refine ev_callV (ci := 10) (a := 93) (y2 := y_Model_feed) (o := 11) (idx := 76) (d2 := d_Model_feed) (n := 5) (mc2 := 0) (ms2 := 0) (As := [.int (xs (Int32.toNatClampNeg (x3 + 1))), .int (xs (Int32.toNatClampNeg (x3 + 2))), .int (xs (Int32.toNatClampNeg (x3 + 3))), .int (xs (Int32.toNatClampNeg (x3 + 4))), .int (xs (Int32.toNatClampNeg (x3 + 5)))]) (st := [.int q128.1]) (res2 := (some (.int q134.1), jR0, q134.2)) (by decide +kernel) rfl lk_11_76 mo_Model_feed mv_Model_feed ⟨Nat.le_of_ble_eq_true rfl, Nat.le_of_ble_eq_true rfl⟩ rfl rfl kz_93 (by decide) rfl (Nat.le_of_ble_eq_true rfl) ⟨Nat.le_of_ble_eq_true rfl, Nat.le_of_ble_eq_true rfl⟩ hG (e_Model_feed hG hq134) ?_
                                  refine ev_icmp_eq (off := 1202) (tgt := 2009) (by decide +kernel) (by decide) (fun c135 => ?_) (fun c135 => ?_)
                                  · replace h := jpos c135 h
                                    refine ev_seg (o := 11) (nL := 4) (q := 18) (xs := [(.iinc 3 8, 3, 3, 0, .int 8), (.goto (-1994), 3, 0, 0, .null)]) (L' := [some (.ref 0), some (.ref 2), some (.ref 93), some (.int (x3 + 8))]) (st' := []) (w' := q134.2) (g := []) (K := []) (by decide +kernel) rfl rfl rfl rfl jk0 ?_
                                    refine ev_mask [true, true, true, true] ?_
                                    exact ih _ _ _ h
                                  · replace h := jneg c135 h
                                    refine ev_seg (o := 11) (nL := 4) (q := 811) (xs := [(.iconst 0, 1, 0, 0, .int 0)]) (L' := [some (.ref 0), some (.ref 2), some (.ref 93), some (.int x3)]) (st' := [.int 0]) (w' := q134.2) (g := []) (K := []) (by decide +kernel) rfl rfl rfl rfl jk0 ?_
                                    cases h
                                    exact ev_zret (by decide +kernel) rfl rfl rfl rfl rfl
                                · replace h := jneg c122 h
                                  by_cases c136 : ((xs (Int32.toNatClampNeg x3)) &&& 63) = 14
                                  · replace h := jpos c136 h
                                    refine ev_tableIn (dflt := 1976) (lo := 0) (hi := 44) (offs := #[195, 280, 323, 356, 419, 462, 515, 548, 571, 594, 617, 650, 683, 716, 779, 802, 825, 848, 881, 924, 957, 1000, 1043, 1096, 1129, 1162, 1195, 1218, 1297, 1350, 1393, 1426, 1449, 1482, 1515, 1558, 1591, 1651, 1721, 1808, 1841, 1874, 1927, 1940, 1953]) (len := 195) (off := 779) (tgt := 812) (by decide +kernel) (by rw [c136]; decide) (by rw [c136]; decide) (by rw [c136]; decide) (by decide) ?_
                                    refine ev_seg (o := 11) (nL := 4) (q := 817) (xs := [(.aload_n 1, 1, 1, 0, .null), (.aload_n 0, 1, 0, 0, .null), (.iload_n 3, 1, 3, 0, .null), (.iconst 1, 1, 0, 0, .int 1), (.iadd, 1, 0, 0, .null)]) (L' := [some (.ref 0), some (.ref 2), some (.ref 93), some (.int x3)]) (st' := [.int (x3 + 1), .ref 0, .ref 2]) (w' := w) (g := []) (K := []) (by decide +kernel) rfl rfl rfl rfl jk0 ?_
                                    obtain ⟨hg137, h⟩ := jgd h
                                    refine ev_sld hLs (by decide +kernel) hg137 ?_
                                    obtain ⟨q138, hq138, h⟩ := jbe h
                                    refine ev_callV (ci := 9) (a := 2) (y2 := y_Count_end) (o := 11) (idx := 77) (d2 := d_Count_end) (n := 1) (mc2 := 0) (ms2 := 0) (As := [.int (xs (Int32.toNatClampNeg (x3 + 1)))]) (st := []) (res2 := (some (.int q138.1), jR0, q138.2)) (by decide +kernel) rfl lk_11_77 mo_Count_end mv_Count_end ⟨Nat.le_of_ble_eq_true rfl, Nat.le_of_ble_eq_true rfl⟩ rfl rfl kz_2 (by decide) rfl (Nat.le_of_ble_eq_true rfl) ⟨Nat.le_of_ble_eq_true rfl, Nat.le_of_ble_eq_true rfl⟩ hG (e_Count_end hG hq138) ?_
                                    refine ev_seg (o := 11) (nL := 4) (q := 826) (xs := [(.aload_n 2, 1, 2, 0, .null), (.aload_n 0, 1, 0, 0, .null), (.iload_n 3, 1, 3, 0, .null), (.iconst 1, 1, 0, 0, .int 1), (.iadd, 1, 0, 0, .null)]) (L' := [some (.ref 0), some (.ref 2), some (.ref 93), some (.int x3)]) (st' := [.int (x3 + 1), .ref 0, .ref 93, .int q138.1]) (w' := q138.2) (g := []) (K := []) (by decide +kernel) rfl rfl rfl rfl jk0 ?_
                                    obtain ⟨hg139, h⟩ := jgd h
                                    refine ev_sld hLs (by decide +kernel) hg139 ?_
                                    obtain ⟨q140, hq140, h⟩ := jbe h
                                    refine ev_callV (ci := 10) (a := 93) (y2 := y_Model_end) (o := 11) (idx := 80) (d2 := d_Model_end) (n := 1) (mc2 := 0) (ms2 := 0) (As := [.int (xs (Int32.toNatClampNeg (x3 + 1)))]) (st := [.int q138.1]) (res2 := (some (.int q140.1), jR0, q140.2)) (by decide +kernel) rfl lk_11_80 mo_Model_end mv_Model_end ⟨Nat.le_of_ble_eq_true rfl, Nat.le_of_ble_eq_true rfl⟩ rfl rfl kz_93 (by decide) rfl (Nat.le_of_ble_eq_true rfl) ⟨Nat.le_of_ble_eq_true rfl, Nat.le_of_ble_eq_true rfl⟩ hG (e_Model_end hG hq140) ?_
                                    refine ev_icmp_eq (off := 1179) (tgt := 2009) (by decide +kernel) (by decide) (fun c141 => ?_) (fun c141 => ?_)
                                    · replace h := jpos c141 h
                                      refine ev_seg (o := 11) (nL := 4) (q := 18) (xs := [(.iinc 3 8, 3, 3, 0, .int 8), (.goto (-1994), 3, 0, 0, .null)]) (L' := [some (.ref 0), some (.ref 2), some (.ref 93), some (.int (x3 + 8))]) (st' := []) (w' := q140.2) (g := []) (K := []) (by decide +kernel) rfl rfl rfl rfl jk0 ?_
                                      refine ev_mask [true, true, true, true] ?_
                                      exact ih _ _ _ h
                                    · replace h := jneg c141 h
                                      refine ev_seg (o := 11) (nL := 4) (q := 834) (xs := [(.iconst 0, 1, 0, 0, .int 0)]) (L' := [some (.ref 0), some (.ref 2), some (.ref 93), some (.int x3)]) (st' := [.int 0]) (w' := q140.2) (g := []) (K := []) (by decide +kernel) rfl rfl rfl rfl jk0 ?_
                                      cases h
                                      exact ev_zret (by decide +kernel) rfl rfl rfl rfl rfl
                                  · replace h := jneg c136 h
                                    by_cases c142 : ((xs (Int32.toNatClampNeg x3)) &&& 63) = 15
                                    · replace h := jpos c142 h
                                      refine ev_tableIn (dflt := 1976) (lo := 0) (hi := 44) (offs := #[195, 280, 323, 356, 419, 462, 515, 548, 571, 594, 617, 650, 683, 716, 779, 802, 825, 848, 881, 924, 957, 1000, 1043, 1096, 1129, 1162, 1195, 1218, 1297, 1350, 1393, 1426, 1449, 1482, 1515, 1558, 1591, 1651, 1721, 1808, 1841, 1874, 1927, 1940, 1953]) (len := 195) (off := 802) (tgt := 835) (by decide +kernel) (by rw [c142]; decide) (by rw [c142]; decide) (by rw [c142]; decide) (by decide) ?_
                                      refine ev_seg (o := 11) (nL := 4) (q := 840) (xs := [(.aload_n 1, 1, 1, 0, .null), (.aload_n 0, 1, 0, 0, .null), (.iload_n 3, 1, 3, 0, .null), (.iconst 1, 1, 0, 0, .int 1), (.iadd, 1, 0, 0, .null)]) (L' := [some (.ref 0), some (.ref 2), some (.ref 93), some (.int x3)]) (st' := [.int (x3 + 1), .ref 0, .ref 2]) (w' := w) (g := []) (K := []) (by decide +kernel) rfl rfl rfl rfl jk0 ?_
                                      obtain ⟨hg143, h⟩ := jgd h
                                      refine ev_sld hLs (by decide +kernel) hg143 ?_
                                      obtain ⟨q144, hq144, h⟩ := jbe h
                                      refine ev_callV (ci := 9) (a := 2) (y2 := y_Count_text) (o := 11) (idx := 81) (d2 := D_Count_text) (n := 1) (mc2 := 0) (ms2 := 0) (As := [.int (xs (Int32.toNatClampNeg (x3 + 1)))]) (st := []) (res2 := (some (.int q144.1), jR0, q144.2)) (by decide +kernel) rfl lk_11_81 mo_Count_text mv_Count_text ⟨Nat.le_of_ble_eq_true rfl, Nat.le_of_ble_eq_true rfl⟩ rfl rfl kz_2 (by decide) rfl (Nat.le_of_ble_eq_true rfl) ⟨Nat.le_of_ble_eq_true rfl, Nat.le_of_ble_eq_true rfl⟩ hG (e_Count_text hG hq144) ?_
                                      refine ev_seg (o := 11) (nL := 4) (q := 849) (xs := [(.aload_n 2, 1, 2, 0, .null), (.aload_n 0, 1, 0, 0, .null), (.iload_n 3, 1, 3, 0, .null), (.iconst 1, 1, 0, 0, .int 1), (.iadd, 1, 0, 0, .null)]) (L' := [some (.ref 0), some (.ref 2), some (.ref 93), some (.int x3)]) (st' := [.int (x3 + 1), .ref 0, .ref 93, .int q144.1]) (w' := q144.2) (g := []) (K := []) (by decide +kernel) rfl rfl rfl rfl jk0 ?_
                                      obtain ⟨hg145, h⟩ := jgd h
                                      refine ev_sld hLs (by decide +kernel) hg145 ?_
                                      obtain ⟨q146, hq146, h⟩ := jbe h
                                      refine ev_callV (ci := 10) (a := 93) (y2 := y_Model_text) (o := 11) (idx := 84) (d2 := d_Model_text) (n := 1) (mc2 := 0) (ms2 := 0) (As := [.int (xs (Int32.toNatClampNeg (x3 + 1)))]) (st := [.int q144.1]) (res2 := (some (.int q146.1), jR0, q146.2)) (by decide +kernel) rfl lk_11_84 mo_Model_text mv_Model_text ⟨Nat.le_of_ble_eq_true rfl, Nat.le_of_ble_eq_true rfl⟩ rfl rfl kz_93 (by decide) rfl (Nat.le_of_ble_eq_true rfl) ⟨Nat.le_of_ble_eq_true rfl, Nat.le_of_ble_eq_true rfl⟩ hG (e_Model_text hG hq146) ?_
                                      refine ev_icmp_eq (off := 1156) (tgt := 2009) (by decide +kernel) (by decide) (fun c147 => ?_) (fun c147 => ?_)
                                      · replace h := jpos c147 h
                                        refine ev_seg (o := 11) (nL := 4) (q := 18) (xs := [(.iinc 3 8, 3, 3, 0, .int 8), (.goto (-1994), 3, 0, 0, .null)]) (L' := [some (.ref 0), some (.ref 2), some (.ref 93), some (.int (x3 + 8))]) (st' := []) (w' := q146.2) (g := []) (K := []) (by decide +kernel) rfl rfl rfl rfl jk0 ?_
                                        refine ev_mask [true, true, true, true] ?_
                                        exact ih _ _ _ h
                                      · replace h := jneg c147 h
                                        refine ev_seg (o := 11) (nL := 4) (q := 857) (xs := [(.iconst 0, 1, 0, 0, .int 0)]) (L' := [some (.ref 0), some (.ref 2), some (.ref 93), some (.int x3)]) (st' := [.int 0]) (w' := q146.2) (g := []) (K := []) (by decide +kernel) rfl rfl rfl rfl jk0 ?_
                                        cases h
                                        exact ev_zret (by decide +kernel) rfl rfl rfl rfl rfl
                                    · replace h := jneg c142 h
                                      by_cases c148 : ((xs (Int32.toNatClampNeg x3)) &&& 63) = 16
                                      · replace h := jpos c148 h
                                        refine ev_tableIn (dflt := 1976) (lo := 0) (hi := 44) (offs := #[195, 280, 323, 356, 419, 462, 515, 548, 571, 594, 617, 650, 683, 716, 779, 802, 825, 848, 881, 924, 957, 1000, 1043, 1096, 1129, 1162, 1195, 1218, 1297, 1350, 1393, 1426, 1449, 1482, 1515, 1558, 1591, 1651, 1721, 1808, 1841, 1874, 1927, 1940, 1953]) (len := 195) (off := 825) (tgt := 858) (by decide +kernel) (by rw [c148]; decide) (by rw [c148]; decide) (by rw [c148]; decide) (by decide) ?_
                                        refine ev_seg (o := 11) (nL := 4) (q := 863) (xs := [(.aload_n 1, 1, 1, 0, .null), (.aload_n 0, 1, 0, 0, .null), (.iload_n 3, 1, 3, 0, .null), (.iconst 1, 1, 0, 0, .int 1), (.iadd, 1, 0, 0, .null)]) (L' := [some (.ref 0), some (.ref 2), some (.ref 93), some (.int x3)]) (st' := [.int (x3 + 1), .ref 0, .ref 2]) (w' := w) (g := []) (K := []) (by decide +kernel) rfl rfl rfl rfl jk0 ?_
                                        obtain ⟨hg149, h⟩ := jgd h
                                        refine ev_sld hLs (by decide +kernel) hg149 ?_
                                        obtain ⟨q150, hq150, h⟩ := jbe h
                                        refine ev_callV (ci := 9) (a := 2) (y2 := y_Count_fault) (o := 11) (idx := 85) (d2 := d_Count_fault) (n := 1) (mc2 := 0) (ms2 := 0) (As := [.int (xs (Int32.toNatClampNeg (x3 + 1)))]) (st := []) (res2 := (some (.int q150.1), jR0, q150.2)) (by decide +kernel) rfl lk_11_85 mo_Count_fault mv_Count_fault ⟨Nat.le_of_ble_eq_true rfl, Nat.le_of_ble_eq_true rfl⟩ rfl rfl kz_2 (by decide) rfl (Nat.le_of_ble_eq_true rfl) ⟨Nat.le_of_ble_eq_true rfl, Nat.le_of_ble_eq_true rfl⟩ hG (e_Count_fault hG hq150) ?_
                                        refine ev_seg (o := 11) (nL := 4) (q := 872) (xs := [(.aload_n 2, 1, 2, 0, .null), (.aload_n 0, 1, 0, 0, .null), (.iload_n 3, 1, 3, 0, .null), (.iconst 1, 1, 0, 0, .int 1), (.iadd, 1, 0, 0, .null)]) (L' := [some (.ref 0), some (.ref 2), some (.ref 93), some (.int x3)]) (st' := [.int (x3 + 1), .ref 0, .ref 93, .int q150.1]) (w' := q150.2) (g := []) (K := []) (by decide +kernel) rfl rfl rfl rfl jk0 ?_
                                        obtain ⟨hg151, h⟩ := jgd h
                                        refine ev_sld hLs (by decide +kernel) hg151 ?_
                                        obtain ⟨q152, hq152, h⟩ := jbe h
                                        refine ev_callV (ci := 10) (a := 93) (y2 := y_Model_fault) (o := 11) (idx := 88) (d2 := d_Model_fault) (n := 1) (mc2 := 0) (ms2 := 0) (As := [.int (xs (Int32.toNatClampNeg (x3 + 1)))]) (st := [.int q150.1]) (res2 := (some (.int q152.1), jR0, q152.2)) (by decide +kernel) rfl lk_11_88 mo_Model_fault mv_Model_fault ⟨Nat.le_of_ble_eq_true rfl, Nat.le_of_ble_eq_true rfl⟩ rfl rfl kz_93 (by decide) rfl (Nat.le_of_ble_eq_true rfl) ⟨Nat.le_of_ble_eq_true rfl, Nat.le_of_ble_eq_true rfl⟩ hG (e_Model_fault hG hq152) ?_
                                        refine ev_icmp_eq (off := 1133) (tgt := 2009) (by decide +kernel) (by decide) (fun c153 => ?_) (fun c153 => ?_)
                                        · replace h := jpos c153 h
                                          refine ev_seg (o := 11) (nL := 4) (q := 18) (xs := [(.iinc 3 8, 3, 3, 0, .int 8), (.goto (-1994), 3, 0, 0, .null)]) (L' := [some (.ref 0), some (.ref 2), some (.ref 93), some (.int (x3 + 8))]) (st' := []) (w' := q152.2) (g := []) (K := []) (by decide +kernel) rfl rfl rfl rfl jk0 ?_
                                          refine ev_mask [true, true, true, true] ?_
                                          exact ih _ _ _ h
                                        · replace h := jneg c153 h
                                          refine ev_seg (o := 11) (nL := 4) (q := 880) (xs := [(.iconst 0, 1, 0, 0, .int 0)]) (L' := [some (.ref 0), some (.ref 2), some (.ref 93), some (.int x3)]) (st' := [.int 0]) (w' := q152.2) (g := []) (K := []) (by decide +kernel) rfl rfl rfl rfl jk0 ?_
                                          cases h
                                          exact ev_zret (by decide +kernel) rfl rfl rfl rfl rfl
                                      · replace h := jneg c148 h
                                        by_cases c154 : ((xs (Int32.toNatClampNeg x3)) &&& 63) = 17
                                        · replace h := jpos c154 h
                                          refine ev_tableIn (dflt := 1976) (lo := 0) (hi := 44) (offs := #[195, 280, 323, 356, 419, 462, 515, 548, 571, 594, 617, 650, 683, 716, 779, 802, 825, 848, 881, 924, 957, 1000, 1043, 1096, 1129, 1162, 1195, 1218, 1297, 1350, 1393, 1426, 1449, 1482, 1515, 1558, 1591, 1651, 1721, 1808, 1841, 1874, 1927, 1940, 1953]) (len := 195) (off := 848) (tgt := 881) (by decide +kernel) (by rw [c154]; decide) (by rw [c154]; decide) (by rw [c154]; decide) (by decide) ?_
                                          refine ev_seg (o := 11) (nL := 4) (q := 886) (xs := [(.aload_n 1, 1, 1, 0, .null), (.aload_n 0, 1, 0, 0, .null), (.iload_n 3, 1, 3, 0, .null), (.iconst 1, 1, 0, 0, .int 1), (.iadd, 1, 0, 0, .null)]) (L' := [some (.ref 0), some (.ref 2), some (.ref 93), some (.int x3)]) (st' := [.int (x3 + 1), .ref 0, .ref 2]) (w' := w) (g := []) (K := []) (by decide +kernel) rfl rfl rfl rfl jk0 ?_
                                          obtain ⟨hg155, h⟩ := jgd h
                                          refine ev_sld hLs (by decide +kernel) hg155 ?_
                                          refine ev_seg (o := 11) (nL := 4) (q := 891) (xs := [(.aload_n 0, 1, 0, 0, .null), (.iload_n 3, 1, 3, 0, .null), (.iconst 2, 1, 0, 0, .int 2), (.iadd, 1, 0, 0, .null)]) (L' := [some (.ref 0), some (.ref 2), some (.ref 93), some (.int x3)]) (st' := [.int (x3 + 2), .ref 0, .int (xs (Int32.toNatClampNeg (x3 + 1))), .ref 2]) (w' := w) (g := []) (K := []) (by decide +kernel) rfl rfl rfl rfl jk0 ?_
                                          obtain ⟨hg156, h⟩ := jgd h
                                          refine ev_sld hLs (by decide +kernel) hg156 ?_
                                          obtain ⟨q157, hq157, h⟩ := jbe h
                                          refine ev_callV (ci := 9) (a := 2) (y2 := y_Count_says) (o := 11) (idx := 89) (d2 := d_Count_says) (n := 2) (mc2 := 0) (ms2 := 0) (As := [.int (xs (Int32.toNatClampNeg (x3 + 1))), .int (xs (Int32.toNatClampNeg (x3 + 2)))]) (st := []) (res2 := (some (.int q157.1), jR0, q157.2)) (by decide +kernel) rfl lk_11_89 mo_Count_says mv_Count_says ⟨Nat.le_of_ble_eq_true rfl, Nat.le_of_ble_eq_true rfl⟩ rfl rfl kz_2 (by decide) rfl (Nat.le_of_ble_eq_true rfl) ⟨Nat.le_of_ble_eq_true rfl, Nat.le_of_ble_eq_true rfl⟩ hG (e_Count_says hG hq157) ?_
                                          refine ev_seg (o := 11) (nL := 4) (q := 900) (xs := [(.aload_n 2, 1, 2, 0, .null), (.aload_n 0, 1, 0, 0, .null), (.iload_n 3, 1, 3, 0, .null), (.iconst 1, 1, 0, 0, .int 1), (.iadd, 1, 0, 0, .null)]) (L' := [some (.ref 0), some (.ref 2), some (.ref 93), some (.int x3)]) (st' := [.int (x3 + 1), .ref 0, .ref 93, .int q157.1]) (w' := q157.2) (g := []) (K := []) (by decide +kernel) rfl rfl rfl rfl jk0 ?_
                                          obtain ⟨hg158, h⟩ := jgd h
                                          refine ev_sld hLs (by decide +kernel) hg158 ?_
                                          refine ev_seg (o := 11) (nL := 4) (q := 905) (xs := [(.aload_n 0, 1, 0, 0, .null), (.iload_n 3, 1, 3, 0, .null), (.iconst 2, 1, 0, 0, .int 2), (.iadd, 1, 0, 0, .null)]) (L' := [some (.ref 0), some (.ref 2), some (.ref 93), some (.int x3)]) (st' := [.int (x3 + 2), .ref 0, .int (xs (Int32.toNatClampNeg (x3 + 1))), .ref 93, .int q157.1]) (w' := q157.2) (g := []) (K := []) (by decide +kernel) rfl rfl rfl rfl jk0 ?_
                                          obtain ⟨hg159, h⟩ := jgd h
                                          refine ev_sld hLs (by decide +kernel) hg159 ?_
                                          obtain ⟨q160, hq160, h⟩ := jbe h
                                          refine ev_callV (ci := 10) (a := 93) (y2 := y_Model_says) (o := 11) (idx := 92) (d2 := d_Model_says) (n := 2) (mc2 := 0) (ms2 := 0) (As := [.int (xs (Int32.toNatClampNeg (x3 + 1))), .int (xs (Int32.toNatClampNeg (x3 + 2)))]) (st := [.int q157.1]) (res2 := (some (.int q160.1), jR0, q160.2)) (by decide +kernel) rfl lk_11_92 mo_Model_says mv_Model_says ⟨Nat.le_of_ble_eq_true rfl, Nat.le_of_ble_eq_true rfl⟩ rfl rfl kz_93 (by decide) rfl (Nat.le_of_ble_eq_true rfl) ⟨Nat.le_of_ble_eq_true rfl, Nat.le_of_ble_eq_true rfl⟩ hG (e_Model_says hG hq160) ?_
                                          refine ev_icmp_eq (off := 1100) (tgt := 2009) (by decide +kernel) (by decide) (fun c161 => ?_) (fun c161 => ?_)
                                          · replace h := jpos c161 h
                                            refine ev_seg (o := 11) (nL := 4) (q := 18) (xs := [(.iinc 3 8, 3, 3, 0, .int 8), (.goto (-1994), 3, 0, 0, .null)]) (L' := [some (.ref 0), some (.ref 2), some (.ref 93), some (.int (x3 + 8))]) (st' := []) (w' := q160.2) (g := []) (K := []) (by decide +kernel) rfl rfl rfl rfl jk0 ?_
                                            refine ev_mask [true, true, true, true] ?_
                                            exact ih _ _ _ h
                                          · replace h := jneg c161 h
                                            refine ev_seg (o := 11) (nL := 4) (q := 913) (xs := [(.iconst 0, 1, 0, 0, .int 0)]) (L' := [some (.ref 0), some (.ref 2), some (.ref 93), some (.int x3)]) (st' := [.int 0]) (w' := q160.2) (g := []) (K := []) (by decide +kernel) rfl rfl rfl rfl jk0 ?_
                                            cases h
                                            exact ev_zret (by decide +kernel) rfl rfl rfl rfl rfl
                                        · replace h := jneg c154 h
                                          by_cases c162 : ((xs (Int32.toNatClampNeg x3)) &&& 63) = 18
                                          · replace h := jpos c162 h
                                            refine ev_tableIn (dflt := 1976) (lo := 0) (hi := 44) (offs := #[195, 280, 323, 356, 419, 462, 515, 548, 571, 594, 617, 650, 683, 716, 779, 802, 825, 848, 881, 924, 957, 1000, 1043, 1096, 1129, 1162, 1195, 1218, 1297, 1350, 1393, 1426, 1449, 1482, 1515, 1558, 1591, 1651, 1721, 1808, 1841, 1874, 1927, 1940, 1953]) (len := 195) (off := 881) (tgt := 914) (by decide +kernel) (by rw [c162]; decide) (by rw [c162]; decide) (by rw [c162]; decide) (by decide) ?_
                                            refine ev_seg (o := 11) (nL := 4) (q := 919) (xs := [(.aload_n 1, 1, 1, 0, .null), (.aload_n 0, 1, 0, 0, .null), (.iload_n 3, 1, 3, 0, .null), (.iconst 1, 1, 0, 0, .int 1), (.iadd, 1, 0, 0, .null)]) (L' := [some (.ref 0), some (.ref 2), some (.ref 93), some (.int x3)]) (st' := [.int (x3 + 1), .ref 0, .ref 2]) (w' := w) (g := []) (K := []) (by decide +kernel) rfl rfl rfl rfl jk0 ?_
                                            obtain ⟨hg163, h⟩ := jgd h
                                            refine ev_sld hLs (by decide +kernel) hg163 ?_
                                            refine ev_seg (o := 11) (nL := 4) (q := 924) (xs := [(.aload_n 0, 1, 0, 0, .null), (.iload_n 3, 1, 3, 0, .null), (.iconst 2, 1, 0, 0, .int 2), (.iadd, 1, 0, 0, .null)]) (L' := [some (.ref 0), some (.ref 2), some (.ref 93), some (.int x3)]) (st' := [.int (x3 + 2), .ref 0, .int (xs (Int32.toNatClampNeg (x3 + 1))), .ref 2]) (w' := w) (g := []) (K := []) (by decide +kernel) rfl rfl rfl rfl jk0 ?_
                                            obtain ⟨hg164, h⟩ := jgd h
                                            refine ev_sld hLs (by decide +kernel) hg164 ?_
                                            refine ev_seg (o := 11) (nL := 4) (q := 929) (xs := [(.aload_n 0, 1, 0, 0, .null), (.iload_n 3, 1, 3, 0, .null), (.iconst 3, 1, 0, 0, .int 3), (.iadd, 1, 0, 0, .null)]) (L' := [some (.ref 0), some (.ref 2), some (.ref 93), some (.int x3)]) (st' := [.int (x3 + 3), .ref 0, .int (xs (Int32.toNatClampNeg (x3 + 2))), .int (xs (Int32.toNatClampNeg (x3 + 1))), .ref 2]) (w' := w) (g := []) (K := []) (by decide +kernel) rfl rfl rfl rfl jk0 ?_
                                            obtain ⟨hg165, h⟩ := jgd h
                                            refine ev_sld hLs (by decide +kernel) hg165 ?_
                                            obtain ⟨q166, hq166, h⟩ := jbe h
                                            refine ev_callV (ci := 9) (a := 2) (y2 := y_Count_counts) (o := 11) (idx := 93) (d2 := d_Count_counts) (n := 3) (mc2 := 0) (ms2 := 0) (As := [.int (xs (Int32.toNatClampNeg (x3 + 1))), .int (xs (Int32.toNatClampNeg (x3 + 2))), .int (xs (Int32.toNatClampNeg (x3 + 3)))]) (st := []) (res2 := (some (.int q166.1), jR0, q166.2)) (by decide +kernel) rfl lk_11_93 mo_Count_counts mv_Count_counts ⟨Nat.le_of_ble_eq_true rfl, Nat.le_of_ble_eq_true rfl⟩ rfl rfl kz_2 (by decide) rfl (Nat.le_of_ble_eq_true rfl) ⟨Nat.le_of_ble_eq_true rfl, Nat.le_of_ble_eq_true rfl⟩ hG (e_Count_counts hG hq166) ?_
                                            refine ev_seg (o := 11) (nL := 4) (q := 938) (xs := [(.aload_n 2, 1, 2, 0, .null), (.aload_n 0, 1, 0, 0, .null), (.iload_n 3, 1, 3, 0, .null), (.iconst 1, 1, 0, 0, .int 1), (.iadd, 1, 0, 0, .null)]) (L' := [some (.ref 0), some (.ref 2), some (.ref 93), some (.int x3)]) (st' := [.int (x3 + 1), .ref 0, .ref 93, .int q166.1]) (w' := q166.2) (g := []) (K := []) (by decide +kernel) rfl rfl rfl rfl jk0 ?_
                                            obtain ⟨hg167, h⟩ := jgd h
                                            refine ev_sld hLs (by decide +kernel) hg167 ?_
                                            refine ev_seg (o := 11) (nL := 4) (q := 943) (xs := [(.aload_n 0, 1, 0, 0, .null), (.iload_n 3, 1, 3, 0, .null), (.iconst 2, 1, 0, 0, .int 2), (.iadd, 1, 0, 0, .null)]) (L' := [some (.ref 0), some (.ref 2), some (.ref 93), some (.int x3)]) (st' := [.int (x3 + 2), .ref 0, .int (xs (Int32.toNatClampNeg (x3 + 1))), .ref 93, .int q166.1]) (w' := q166.2) (g := []) (K := []) (by decide +kernel) rfl rfl rfl rfl jk0 ?_
                                            obtain ⟨hg168, h⟩ := jgd h
                                            refine ev_sld hLs (by decide +kernel) hg168 ?_
                                            refine ev_seg (o := 11) (nL := 4) (q := 948) (xs := [(.aload_n 0, 1, 0, 0, .null), (.iload_n 3, 1, 3, 0, .null), (.iconst 3, 1, 0, 0, .int 3), (.iadd, 1, 0, 0, .null)]) (L' := [some (.ref 0), some (.ref 2), some (.ref 93), some (.int x3)]) (st' := [.int (x3 + 3), .ref 0, .int (xs (Int32.toNatClampNeg (x3 + 2))), .int (xs (Int32.toNatClampNeg (x3 + 1))), .ref 93, .int q166.1]) (w' := q166.2) (g := []) (K := []) (by decide +kernel) rfl rfl rfl rfl jk0 ?_
                                            obtain ⟨hg169, h⟩ := jgd h
                                            refine ev_sld hLs (by decide +kernel) hg169 ?_
                                            obtain ⟨q170, hq170, h⟩ := jbe h
                                            refine ev_callV (ci := 10) (a := 93) (y2 := y_Model_counts) (o := 11) (idx := 96) (d2 := d_Model_counts) (n := 3) (mc2 := 0) (ms2 := 0) (As := [.int (xs (Int32.toNatClampNeg (x3 + 1))), .int (xs (Int32.toNatClampNeg (x3 + 2))), .int (xs (Int32.toNatClampNeg (x3 + 3)))]) (st := [.int q166.1]) (res2 := (some (.int q170.1), jR0, q170.2)) (by decide +kernel) rfl lk_11_96 mo_Model_counts mv_Model_counts ⟨Nat.le_of_ble_eq_true rfl, Nat.le_of_ble_eq_true rfl⟩ rfl rfl kz_93 (by decide) rfl (Nat.le_of_ble_eq_true rfl) ⟨Nat.le_of_ble_eq_true rfl, Nat.le_of_ble_eq_true rfl⟩ hG (e_Model_counts hG hq170) ?_
                                            refine ev_icmp_eq (off := 1057) (tgt := 2009) (by decide +kernel) (by decide) (fun c171 => ?_) (fun c171 => ?_)
                                            · replace h := jpos c171 h
                                              refine ev_seg (o := 11) (nL := 4) (q := 18) (xs := [(.iinc 3 8, 3, 3, 0, .int 8), (.goto (-1994), 3, 0, 0, .null)]) (L' := [some (.ref 0), some (.ref 2), some (.ref 93), some (.int (x3 + 8))]) (st' := []) (w' := q170.2) (g := []) (K := []) (by decide +kernel) rfl rfl rfl rfl jk0 ?_
                                              refine ev_mask [true, true, true, true] ?_
                                              exact ih _ _ _ h
                                            · replace h := jneg c171 h
                                              refine ev_seg (o := 11) (nL := 4) (q := 956) (xs := [(.iconst 0, 1, 0, 0, .int 0)]) (L' := [some (.ref 0), some (.ref 2), some (.ref 93), some (.int x3)]) (st' := [.int 0]) (w' := q170.2) (g := []) (K := []) (by decide +kernel) rfl rfl rfl rfl jk0 ?_
                                              cases h
                                              exact ev_zret (by decide +kernel) rfl rfl rfl rfl rfl
                                          · replace h := jneg c162 h
                                            by_cases c172 : ((xs (Int32.toNatClampNeg x3)) &&& 63) = 19
                                            · replace h := jpos c172 h
                                              refine ev_tableIn (dflt := 1976) (lo := 0) (hi := 44) (offs := #[195, 280, 323, 356, 419, 462, 515, 548, 571, 594, 617, 650, 683, 716, 779, 802, 825, 848, 881, 924, 957, 1000, 1043, 1096, 1129, 1162, 1195, 1218, 1297, 1350, 1393, 1426, 1449, 1482, 1515, 1558, 1591, 1651, 1721, 1808, 1841, 1874, 1927, 1940, 1953]) (len := 195) (off := 924) (tgt := 957) (by decide +kernel) (by rw [c172]; decide) (by rw [c172]; decide) (by rw [c172]; decide) (by decide) ?_
                                              refine ev_seg (o := 11) (nL := 4) (q := 962) (xs := [(.aload_n 1, 1, 1, 0, .null), (.aload_n 0, 1, 0, 0, .null), (.iload_n 3, 1, 3, 0, .null), (.iconst 1, 1, 0, 0, .int 1), (.iadd, 1, 0, 0, .null)]) (L' := [some (.ref 0), some (.ref 2), some (.ref 93), some (.int x3)]) (st' := [.int (x3 + 1), .ref 0, .ref 2]) (w' := w) (g := []) (K := []) (by decide +kernel) rfl rfl rfl rfl jk0 ?_
                                              obtain ⟨hg173, h⟩ := jgd h
                                              refine ev_sld hLs (by decide +kernel) hg173 ?_
                                              refine ev_seg (o := 11) (nL := 4) (q := 967) (xs := [(.aload_n 0, 1, 0, 0, .null), (.iload_n 3, 1, 3, 0, .null), (.iconst 2, 1, 0, 0, .int 2), (.iadd, 1, 0, 0, .null)]) (L' := [some (.ref 0), some (.ref 2), some (.ref 93), some (.int x3)]) (st' := [.int (x3 + 2), .ref 0, .int (xs (Int32.toNatClampNeg (x3 + 1))), .ref 2]) (w' := w) (g := []) (K := []) (by decide +kernel) rfl rfl rfl rfl jk0 ?_
                                              obtain ⟨hg174, h⟩ := jgd h
                                              refine ev_sld hLs (by decide +kernel) hg174 ?_
                                              obtain ⟨q175, hq175, h⟩ := jbe h
                                              refine ev_callV (ci := 9) (a := 2) (y2 := y_Count_counted) (o := 11) (idx := 97) (d2 := d_Count_counted) (n := 2) (mc2 := 0) (ms2 := 0) (As := [.int (xs (Int32.toNatClampNeg (x3 + 1))), .int (xs (Int32.toNatClampNeg (x3 + 2)))]) (st := []) (res2 := (some (.int q175.1), jR0, q175.2)) (by decide +kernel) rfl lk_11_97 mo_Count_counted mv_Count_counted ⟨Nat.le_of_ble_eq_true rfl, Nat.le_of_ble_eq_true rfl⟩ rfl rfl kz_2 (by decide) rfl (Nat.le_of_ble_eq_true rfl) ⟨Nat.le_of_ble_eq_true rfl, Nat.le_of_ble_eq_true rfl⟩ hG (e_Count_counted hG hq175) ?_
                                              refine ev_seg (o := 11) (nL := 4) (q := 976) (xs := [(.aload_n 2, 1, 2, 0, .null), (.aload_n 0, 1, 0, 0, .null), (.iload_n 3, 1, 3, 0, .null), (.iconst 1, 1, 0, 0, .int 1), (.iadd, 1, 0, 0, .null)]) (L' := [some (.ref 0), some (.ref 2), some (.ref 93), some (.int x3)]) (st' := [.int (x3 + 1), .ref 0, .ref 93, .int q175.1]) (w' := q175.2) (g := []) (K := []) (by decide +kernel) rfl rfl rfl rfl jk0 ?_
                                              obtain ⟨hg176, h⟩ := jgd h
                                              refine ev_sld hLs (by decide +kernel) hg176 ?_
                                              refine ev_seg (o := 11) (nL := 4) (q := 981) (xs := [(.aload_n 0, 1, 0, 0, .null), (.iload_n 3, 1, 3, 0, .null), (.iconst 2, 1, 0, 0, .int 2), (.iadd, 1, 0, 0, .null)]) (L' := [some (.ref 0), some (.ref 2), some (.ref 93), some (.int x3)]) (st' := [.int (x3 + 2), .ref 0, .int (xs (Int32.toNatClampNeg (x3 + 1))), .ref 93, .int q175.1]) (w' := q175.2) (g := []) (K := []) (by decide +kernel) rfl rfl rfl rfl jk0 ?_
                                              obtain ⟨hg177, h⟩ := jgd h
                                              refine ev_sld hLs (by decide +kernel) hg177 ?_
                                              obtain ⟨q178, hq178, h⟩ := jbe h
                                              refine ev_callV (ci := 10) (a := 93) (y2 := y_Model_counted) (o := 11) (idx := 100) (d2 := d_Model_counted) (n := 2) (mc2 := 0) (ms2 := 0) (As := [.int (xs (Int32.toNatClampNeg (x3 + 1))), .int (xs (Int32.toNatClampNeg (x3 + 2)))]) (st := [.int q175.1]) (res2 := (some (.int q178.1), jR0, q178.2)) (by decide +kernel) rfl lk_11_100 mo_Model_counted mv_Model_counted ⟨Nat.le_of_ble_eq_true rfl, Nat.le_of_ble_eq_true rfl⟩ rfl rfl kz_93 (by decide) rfl (Nat.le_of_ble_eq_true rfl) ⟨Nat.le_of_ble_eq_true rfl, Nat.le_of_ble_eq_true rfl⟩ hG (e_Model_counted hG hq178) ?_
                                              refine ev_icmp_eq (off := 1024) (tgt := 2009) (by decide +kernel) (by decide) (fun c179 => ?_) (fun c179 => ?_)
                                              · replace h := jpos c179 h
                                                refine ev_seg (o := 11) (nL := 4) (q := 18) (xs := [(.iinc 3 8, 3, 3, 0, .int 8), (.goto (-1994), 3, 0, 0, .null)]) (L' := [some (.ref 0), some (.ref 2), some (.ref 93), some (.int (x3 + 8))]) (st' := []) (w' := q178.2) (g := []) (K := []) (by decide +kernel) rfl rfl rfl rfl jk0 ?_
                                                refine ev_mask [true, true, true, true] ?_
                                                exact ih _ _ _ h
                                              · replace h := jneg c179 h
                                                refine ev_seg (o := 11) (nL := 4) (q := 989) (xs := [(.iconst 0, 1, 0, 0, .int 0)]) (L' := [some (.ref 0), some (.ref 2), some (.ref 93), some (.int x3)]) (st' := [.int 0]) (w' := q178.2) (g := []) (K := []) (by decide +kernel) rfl rfl rfl rfl jk0 ?_
                                                cases h
                                                exact ev_zret (by decide +kernel) rfl rfl rfl rfl rfl
                                            · replace h := jneg c172 h
                                              by_cases c180 : ((xs (Int32.toNatClampNeg x3)) &&& 63) = 20
                                              · replace h := jpos c180 h
                                                refine ev_tableIn (dflt := 1976) (lo := 0) (hi := 44) (offs := #[195, 280, 323, 356, 419, 462, 515, 548, 571, 594, 617, 650, 683, 716, 779, 802, 825, 848, 881, 924, 957, 1000, 1043, 1096, 1129, 1162, 1195, 1218, 1297, 1350, 1393, 1426, 1449, 1482, 1515, 1558, 1591, 1651, 1721, 1808, 1841, 1874, 1927, 1940, 1953]) (len := 195) (off := 957) (tgt := 990) (by decide +kernel) (by rw [c180]; decide) (by rw [c180]; decide) (by rw [c180]; decide) (by decide) ?_
                                                refine ev_seg (o := 11) (nL := 4) (q := 995) (xs := [(.aload_n 1, 1, 1, 0, .null), (.aload_n 0, 1, 0, 0, .null), (.iload_n 3, 1, 3, 0, .null), (.iconst 1, 1, 0, 0, .int 1), (.iadd, 1, 0, 0, .null)]) (L' := [some (.ref 0), some (.ref 2), some (.ref 93), some (.int x3)]) (st' := [.int (x3 + 1), .ref 0, .ref 2]) (w' := w) (g := []) (K := []) (by decide +kernel) rfl rfl rfl rfl jk0 ?_
                                                obtain ⟨hg181, h⟩ := jgd h
                                                refine ev_sld hLs (by decide +kernel) hg181 ?_
                                                refine ev_seg (o := 11) (nL := 4) (q := 1000) (xs := [(.aload_n 0, 1, 0, 0, .null), (.iload_n 3, 1, 3, 0, .null), (.iconst 2, 1, 0, 0, .int 2), (.iadd, 1, 0, 0, .null)]) (L' := [some (.ref 0), some (.ref 2), some (.ref 93), some (.int x3)]) (st' := [.int (x3 + 2), .ref 0, .int (xs (Int32.toNatClampNeg (x3 + 1))), .ref 2]) (w' := w) (g := []) (K := []) (by decide +kernel) rfl rfl rfl rfl jk0 ?_
                                                obtain ⟨hg182, h⟩ := jgd h
                                                refine ev_sld hLs (by decide +kernel) hg182 ?_
                                                refine ev_seg (o := 11) (nL := 4) (q := 1005) (xs := [(.aload_n 0, 1, 0, 0, .null), (.iload_n 3, 1, 3, 0, .null), (.iconst 3, 1, 0, 0, .int 3), (.iadd, 1, 0, 0, .null)]) (L' := [some (.ref 0), some (.ref 2), some (.ref 93), some (.int x3)]) (st' := [.int (x3 + 3), .ref 0, .int (xs (Int32.toNatClampNeg (x3 + 2))), .int (xs (Int32.toNatClampNeg (x3 + 1))), .ref 2]) (w' := w) (g := []) (K := []) (by decide +kernel) rfl rfl rfl rfl jk0 ?_
                                                obtain ⟨hg183, h⟩ := jgd h
                                                refine ev_sld hLs (by decide +kernel) hg183 ?_
                                                obtain ⟨q184, hq184, h⟩ := jbe h
                                                refine ev_callV (ci := 9) (a := 2) (y2 := y_Count_tell) (o := 11) (idx := 101) (d2 := d_Count_tell) (n := 3) (mc2 := 0) (ms2 := 0) (As := [.int (xs (Int32.toNatClampNeg (x3 + 1))), .int (xs (Int32.toNatClampNeg (x3 + 2))), .int (xs (Int32.toNatClampNeg (x3 + 3)))]) (st := []) (res2 := (some (.int q184.1), jR0, q184.2)) (by decide +kernel) rfl lk_11_101 mo_Count_tell mv_Count_tell ⟨Nat.le_of_ble_eq_true rfl, Nat.le_of_ble_eq_true rfl⟩ rfl rfl kz_2 (by decide) rfl (Nat.le_of_ble_eq_true rfl) ⟨Nat.le_of_ble_eq_true rfl, Nat.le_of_ble_eq_true rfl⟩ hG (e_Count_tell hG hq184) ?_
                                                refine ev_seg (o := 11) (nL := 4) (q := 1014) (xs := [(.aload_n 2, 1, 2, 0, .null), (.aload_n 0, 1, 0, 0, .null), (.iload_n 3, 1, 3, 0, .null), (.iconst 1, 1, 0, 0, .int 1), (.iadd, 1, 0, 0, .null)]) (L' := [some (.ref 0), some (.ref 2), some (.ref 93), some (.int x3)]) (st' := [.int (x3 + 1), .ref 0, .ref 93, .int q184.1]) (w' := q184.2) (g := []) (K := []) (by decide +kernel) rfl rfl rfl rfl jk0 ?_
                                                obtain ⟨hg185, h⟩ := jgd h
                                                refine ev_sld hLs (by decide +kernel) hg185 ?_
                                                refine ev_seg (o := 11) (nL := 4) (q := 1019) (xs := [(.aload_n 0, 1, 0, 0, .null), (.iload_n 3, 1, 3, 0, .null), (.iconst 2, 1, 0, 0, .int 2), (.iadd, 1, 0, 0, .null)]) (L' := [some (.ref 0), some (.ref 2), some (.ref 93), some (.int x3)]) (st' := [.int (x3 + 2), .ref 0, .int (xs (Int32.toNatClampNeg (x3 + 1))), .ref 93, .int q184.1]) (w' := q184.2) (g := []) (K := []) (by decide +kernel) rfl rfl rfl rfl jk0 ?_
                                                obtain ⟨hg186, h⟩ := jgd h
                                                refine ev_sld hLs (by decide +kernel) hg186 ?_
                                                refine ev_seg (o := 11) (nL := 4) (q := 1024) (xs := [(.aload_n 0, 1, 0, 0, .null), (.iload_n 3, 1, 3, 0, .null), (.iconst 3, 1, 0, 0, .int 3), (.iadd, 1, 0, 0, .null)]) (L' := [some (.ref 0), some (.ref 2), some (.ref 93), some (.int x3)]) (st' := [.int (x3 + 3), .ref 0, .int (xs (Int32.toNatClampNeg (x3 + 2))), .int (xs (Int32.toNatClampNeg (x3 + 1))), .ref 93, .int q184.1]) (w' := q184.2) (g := []) (K := []) (by decide +kernel) rfl rfl rfl rfl jk0 ?_
                                                obtain ⟨hg187, h⟩ := jgd h
                                                refine ev_sld hLs (by decide +kernel) hg187 ?_
                                                obtain ⟨q188, hq188, h⟩ := jbe h
                                                refine ev_callV (ci := 10) (a := 93) (y2 := y_Model_tell) (o := 11) (idx := 104) (d2 := d_Model_tell) (n := 3) (mc2 := 0) (ms2 := 0) (As := [.int (xs (Int32.toNatClampNeg (x3 + 1))), .int (xs (Int32.toNatClampNeg (x3 + 2))), .int (xs (Int32.toNatClampNeg (x3 + 3)))]) (st := [.int q184.1]) (res2 := (some (.int q188.1), jR0, q188.2)) (by decide +kernel) rfl lk_11_104 mo_Model_tell mv_Model_tell ⟨Nat.le_of_ble_eq_true rfl, Nat.le_of_ble_eq_true rfl⟩ rfl rfl kz_93 (by decide) rfl (Nat.le_of_ble_eq_true rfl) ⟨Nat.le_of_ble_eq_true rfl, Nat.le_of_ble_eq_true rfl⟩ hG (e_Model_tell hG hq188) ?_
                                                refine ev_icmp_eq (off := 981) (tgt := 2009) (by decide +kernel) (by decide) (fun c189 => ?_) (fun c189 => ?_)
                                                · replace h := jpos c189 h
                                                  refine ev_seg (o := 11) (nL := 4) (q := 18) (xs := [(.iinc 3 8, 3, 3, 0, .int 8), (.goto (-1994), 3, 0, 0, .null)]) (L' := [some (.ref 0), some (.ref 2), some (.ref 93), some (.int (x3 + 8))]) (st' := []) (w' := q188.2) (g := []) (K := []) (by decide +kernel) rfl rfl rfl rfl jk0 ?_
                                                  refine ev_mask [true, true, true, true] ?_
                                                  exact ih _ _ _ h
                                                · replace h := jneg c189 h
                                                  refine ev_seg (o := 11) (nL := 4) (q := 1032) (xs := [(.iconst 0, 1, 0, 0, .int 0)]) (L' := [some (.ref 0), some (.ref 2), some (.ref 93), some (.int x3)]) (st' := [.int 0]) (w' := q188.2) (g := []) (K := []) (by decide +kernel) rfl rfl rfl rfl jk0 ?_
                                                  cases h
                                                  exact ev_zret (by decide +kernel) rfl rfl rfl rfl rfl
                                              · replace h := jneg c180 h
                                                by_cases c190 : ((xs (Int32.toNatClampNeg x3)) &&& 63) = 21
                                                · replace h := jpos c190 h
                                                  refine ev_tableIn (dflt := 1976) (lo := 0) (hi := 44) (offs := #[195, 280, 323, 356, 419, 462, 515, 548, 571, 594, 617, 650, 683, 716, 779, 802, 825, 848, 881, 924, 957, 1000, 1043, 1096, 1129, 1162, 1195, 1218, 1297, 1350, 1393, 1426, 1449, 1482, 1515, 1558, 1591, 1651, 1721, 1808, 1841, 1874, 1927, 1940, 1953]) (len := 195) (off := 1000) (tgt := 1033) (by decide +kernel) (by rw [c190]; decide) (by rw [c190]; decide) (by rw [c190]; decide) (by decide) ?_
                                                  refine ev_seg (o := 11) (nL := 4) (q := 1038) (xs := [(.aload_n 1, 1, 1, 0, .null), (.aload_n 0, 1, 0, 0, .null), (.iload_n 3, 1, 3, 0, .null), (.iconst 1, 1, 0, 0, .int 1), (.iadd, 1, 0, 0, .null)]) (L' := [some (.ref 0), some (.ref 2), some (.ref 93), some (.int x3)]) (st' := [.int (x3 + 1), .ref 0, .ref 2]) (w' := w) (g := []) (K := []) (by decide +kernel) rfl rfl rfl rfl jk0 ?_
                                                  obtain ⟨hg191, h⟩ := jgd h
                                                  refine ev_sld hLs (by decide +kernel) hg191 ?_
                                                  refine ev_seg (o := 11) (nL := 4) (q := 1043) (xs := [(.aload_n 0, 1, 0, 0, .null), (.iload_n 3, 1, 3, 0, .null), (.iconst 2, 1, 0, 0, .int 2), (.iadd, 1, 0, 0, .null)]) (L' := [some (.ref 0), some (.ref 2), some (.ref 93), some (.int x3)]) (st' := [.int (x3 + 2), .ref 0, .int (xs (Int32.toNatClampNeg (x3 + 1))), .ref 2]) (w' := w) (g := []) (K := []) (by decide +kernel) rfl rfl rfl rfl jk0 ?_
                                                  obtain ⟨hg192, h⟩ := jgd h
                                                  refine ev_sld hLs (by decide +kernel) hg192 ?_
                                                  refine ev_seg (o := 11) (nL := 4) (q := 1048) (xs := [(.aload_n 0, 1, 0, 0, .null), (.iload_n 3, 1, 3, 0, .null), (.iconst 3, 1, 0, 0, .int 3), (.iadd, 1, 0, 0, .null)]) (L' := [some (.ref 0), some (.ref 2), some (.ref 93), some (.int x3)]) (st' := [.int (x3 + 3), .ref 0, .int (xs (Int32.toNatClampNeg (x3 + 2))), .int (xs (Int32.toNatClampNeg (x3 + 1))), .ref 2]) (w' := w) (g := []) (K := []) (by decide +kernel) rfl rfl rfl rfl jk0 ?_
                                                  obtain ⟨hg193, h⟩ := jgd h
                                                  refine ev_sld hLs (by decide +kernel) hg193 ?_
                                                  obtain ⟨q194, hq194, h⟩ := jbe h
                                                  refine ev_callV (ci := 9) (a := 2) (y2 := y_Count_told) (o := 11) (idx := 105) (d2 := d_Count_told) (n := 3) (mc2 := 0) (ms2 := 0) (As := [.int (xs (Int32.toNatClampNeg (x3 + 1))), .int (xs (Int32.toNatClampNeg (x3 + 2))), .int (xs (Int32.toNatClampNeg (x3 + 3)))]) (st := []) (res2 := (some (.int q194.1), jR0, q194.2)) (by decide +kernel) rfl lk_11_105 mo_Count_told mv_Count_told ⟨Nat.le_of_ble_eq_true rfl, Nat.le_of_ble_eq_true rfl⟩ rfl rfl kz_2 (by decide) rfl (Nat.le_of_ble_eq_true rfl) ⟨Nat.le_of_ble_eq_true rfl, Nat.le_of_ble_eq_true rfl⟩ hG (e_Count_told hG hq194) ?_
                                                  refine ev_seg (o := 11) (nL := 4) (q := 1057) (xs := [(.aload_n 2, 1, 2, 0, .null), (.aload_n 0, 1, 0, 0, .null), (.iload_n 3, 1, 3, 0, .null), (.iconst 1, 1, 0, 0, .int 1), (.iadd, 1, 0, 0, .null)]) (L' := [some (.ref 0), some (.ref 2), some (.ref 93), some (.int x3)]) (st' := [.int (x3 + 1), .ref 0, .ref 93, .int q194.1]) (w' := q194.2) (g := []) (K := []) (by decide +kernel) rfl rfl rfl rfl jk0 ?_
                                                  obtain ⟨hg195, h⟩ := jgd h
                                                  refine ev_sld hLs (by decide +kernel) hg195 ?_
                                                  refine ev_seg (o := 11) (nL := 4) (q := 1062) (xs := [(.aload_n 0, 1, 0, 0, .null), (.iload_n 3, 1, 3, 0, .null), (.iconst 2, 1, 0, 0, .int 2), (.iadd, 1, 0, 0, .null)]) (L' := [some (.ref 0), some (.ref 2), some (.ref 93), some (.int x3)]) (st' := [.int (x3 + 2), .ref 0, .int (xs (Int32.toNatClampNeg (x3 + 1))), .ref 93, .int q194.1]) (w' := q194.2) (g := []) (K := []) (by decide +kernel) rfl rfl rfl rfl jk0 ?_
                                                  obtain ⟨hg196, h⟩ := jgd h
                                                  refine ev_sld hLs (by decide +kernel) hg196 ?_
                                                  refine ev_seg (o := 11) (nL := 4) (q := 1067) (xs := [(.aload_n 0, 1, 0, 0, .null), (.iload_n 3, 1, 3, 0, .null), (.iconst 3, 1, 0, 0, .int 3), (.iadd, 1, 0, 0, .null)]) (L' := [some (.ref 0), some (.ref 2), some (.ref 93), some (.int x3)]) (st' := [.int (x3 + 3), .ref 0, .int (xs (Int32.toNatClampNeg (x3 + 2))), .int (xs (Int32.toNatClampNeg (x3 + 1))), .ref 93, .int q194.1]) (w' := q194.2) (g := []) (K := []) (by decide +kernel) rfl rfl rfl rfl jk0 ?_
                                                  obtain ⟨hg197, h⟩ := jgd h
                                                  refine ev_sld hLs (by decide +kernel) hg197 ?_
                                                  obtain ⟨q198, hq198, h⟩ := jbe h
                                                  refine ev_callV (ci := 10) (a := 93) (y2 := y_Model_told) (o := 11) (idx := 108) (d2 := d_Model_told) (n := 3) (mc2 := 0) (ms2 := 0) (As := [.int (xs (Int32.toNatClampNeg (x3 + 1))), .int (xs (Int32.toNatClampNeg (x3 + 2))), .int (xs (Int32.toNatClampNeg (x3 + 3)))]) (st := [.int q194.1]) (res2 := (some (.int q198.1), jR0, q198.2)) (by decide +kernel) rfl lk_11_108 mo_Model_told mv_Model_told ⟨Nat.le_of_ble_eq_true rfl, Nat.le_of_ble_eq_true rfl⟩ rfl rfl kz_93 (by decide) rfl (Nat.le_of_ble_eq_true rfl) ⟨Nat.le_of_ble_eq_true rfl, Nat.le_of_ble_eq_true rfl⟩ hG (e_Model_told hG hq198) ?_
                                                  refine ev_icmp_eq (off := 938) (tgt := 2009) (by decide +kernel) (by decide) (fun c199 => ?_) (fun c199 => ?_)
                                                  · replace h := jpos c199 h
                                                    refine ev_seg (o := 11) (nL := 4) (q := 18) (xs := [(.iinc 3 8, 3, 3, 0, .int 8), (.goto (-1994), 3, 0, 0, .null)]) (L' := [some (.ref 0), some (.ref 2), some (.ref 93), some (.int (x3 + 8))]) (st' := []) (w' := q198.2) (g := []) (K := []) (by decide +kernel) rfl rfl rfl rfl jk0 ?_
                                                    refine ev_mask [true, true, true, true] ?_
                                                    exact ih _ _ _ h
                                                  · replace h := jneg c199 h
                                                    refine ev_seg (o := 11) (nL := 4) (q := 1075) (xs := [(.iconst 0, 1, 0, 0, .int 0)]) (L' := [some (.ref 0), some (.ref 2), some (.ref 93), some (.int x3)]) (st' := [.int 0]) (w' := q198.2) (g := []) (K := []) (by decide +kernel) rfl rfl rfl rfl jk0 ?_
                                                    cases h
                                                    exact ev_zret (by decide +kernel) rfl rfl rfl rfl rfl
                                                · replace h := jneg c190 h
                                                  by_cases c200 : ((xs (Int32.toNatClampNeg x3)) &&& 63) = 22
                                                  · replace h := jpos c200 h
                                                    refine ev_tableIn (dflt := 1976) (lo := 0) (hi := 44) (offs := #[195, 280, 323, 356, 419, 462, 515, 548, 571, 594, 617, 650, 683, 716, 779, 802, 825, 848, 881, 924, 957, 1000, 1043, 1096, 1129, 1162, 1195, 1218, 1297, 1350, 1393, 1426, 1449, 1482, 1515, 1558, 1591, 1651, 1721, 1808, 1841, 1874, 1927, 1940, 1953]) (len := 195) (off := 1043) (tgt := 1076) (by decide +kernel) (by rw [c200]; decide) (by rw [c200]; decide) (by rw [c200]; decide) (by decide) ?_
                                                    refine ev_seg (o := 11) (nL := 4) (q := 1081) (xs := [(.aload_n 1, 1, 1, 0, .null), (.aload_n 0, 1, 0, 0, .null), (.iload_n 3, 1, 3, 0, .null), (.iconst 1, 1, 0, 0, .int 1), (.iadd, 1, 0, 0, .null)]) (L' := [some (.ref 0), some (.ref 2), some (.ref 93), some (.int x3)]) (st' := [.int (x3 + 1), .ref 0, .ref 2]) (w' := w) (g := []) (K := []) (by decide +kernel) rfl rfl rfl rfl jk0 ?_
                                                    obtain ⟨hg201, h⟩ := jgd h
                                                    refine ev_sld hLs (by decide +kernel) hg201 ?_
                                                    refine ev_seg (o := 11) (nL := 4) (q := 1086) (xs := [(.aload_n 0, 1, 0, 0, .null), (.iload_n 3, 1, 3, 0, .null), (.iconst 2, 1, 0, 0, .int 2), (.iadd, 1, 0, 0, .null)]) (L' := [some (.ref 0), some (.ref 2), some (.ref 93), some (.int x3)]) (st' := [.int (x3 + 2), .ref 0, .int (xs (Int32.toNatClampNeg (x3 + 1))), .ref 2]) (w' := w) (g := []) (K := []) (by decide +kernel) rfl rfl rfl rfl jk0 ?_
                                                    obtain ⟨hg202, h⟩ := jgd h
                                                    refine ev_sld hLs (by decide +kernel) hg202 ?_
                                                    refine ev_seg (o := 11) (nL := 4) (q := 1091) (xs := [(.aload_n 0, 1, 0, 0, .null), (.iload_n 3, 1, 3, 0, .null), (.iconst 3, 1, 0, 0, .int 3), (.iadd, 1, 0, 0, .null)]) (L' := [some (.ref 0), some (.ref 2), some (.ref 93), some (.int x3)]) (st' := [.int (x3 + 3), .ref 0, .int (xs (Int32.toNatClampNeg (x3 + 2))), .int (xs (Int32.toNatClampNeg (x3 + 1))), .ref 2]) (w' := w) (g := []) (K := []) (by decide +kernel) rfl rfl rfl rfl jk0 ?_
                                                    obtain ⟨hg203, h⟩ := jgd h
                                                    refine ev_sld hLs (by decide +kernel) hg203 ?_
                                                    refine ev_seg (o := 11) (nL := 4) (q := 1096) (xs := [(.aload_n 0, 1, 0, 0, .null), (.iload_n 3, 1, 3, 0, .null), (.iconst 4, 1, 0, 0, .int 4), (.iadd, 1, 0, 0, .null)]) (L' := [some (.ref 0), some (.ref 2), some (.ref 93), some (.int x3)]) (st' := [.int (x3 + 4), .ref 0, .int (xs (Int32.toNatClampNeg (x3 + 3))), .int (xs (Int32.toNatClampNeg (x3 + 2))), .int (xs (Int32.toNatClampNeg (x3 + 1))), .ref 2]) (w' := w) (g := []) (K := []) (by decide +kernel) rfl rfl rfl rfl jk0 ?_
                                                    obtain ⟨hg204, h⟩ := jgd h
                                                    refine ev_sld hLs (by decide +kernel) hg204 ?_
                                                    obtain ⟨q205, hq205, h⟩ := jbe h
                                                    refine ev_callV (ci := 9) (a := 2) (y2 := y_Count_toldAt) (o := 11) (idx := 109) (d2 := d_Count_toldAt) (n := 4) (mc2 := 0) (ms2 := 0) (As := [.int (xs (Int32.toNatClampNeg (x3 + 1))), .int (xs (Int32.toNatClampNeg (x3 + 2))), .int (xs (Int32.toNatClampNeg (x3 + 3))), .int (xs (Int32.toNatClampNeg (x3 + 4)))]) (st := []) (res2 := (some (.int q205.1), jR0, q205.2)) (by decide +kernel) rfl lk_11_109 mo_Count_toldAt mv_Count_toldAt ⟨Nat.le_of_ble_eq_true rfl, Nat.le_of_ble_eq_true rfl⟩ rfl rfl kz_2 (by decide) rfl (Nat.le_of_ble_eq_true rfl) ⟨Nat.le_of_ble_eq_true rfl, Nat.le_of_ble_eq_true rfl⟩ hG (e_Count_toldAt hG hq205) ?_
                                                    refine ev_seg (o := 11) (nL := 4) (q := 1105) (xs := [(.aload_n 2, 1, 2, 0, .null), (.aload_n 0, 1, 0, 0, .null), (.iload_n 3, 1, 3, 0, .null), (.iconst 1, 1, 0, 0, .int 1), (.iadd, 1, 0, 0, .null)]) (L' := [some (.ref 0), some (.ref 2), some (.ref 93), some (.int x3)]) (st' := [.int (x3 + 1), .ref 0, .ref 93, .int q205.1]) (w' := q205.2) (g := []) (K := []) (by decide +kernel) rfl rfl rfl rfl jk0 ?_
                                                    obtain ⟨hg206, h⟩ := jgd h
                                                    refine ev_sld hLs (by decide +kernel) hg206 ?_
                                                    refine ev_seg (o := 11) (nL := 4) (q := 1110) (xs := [(.aload_n 0, 1, 0, 0, .null), (.iload_n 3, 1, 3, 0, .null), (.iconst 2, 1, 0, 0, .int 2), (.iadd, 1, 0, 0, .null)]) (L' := [some (.ref 0), some (.ref 2), some (.ref 93), some (.int x3)]) (st' := [.int (x3 + 2), .ref 0, .int (xs (Int32.toNatClampNeg (x3 + 1))), .ref 93, .int q205.1]) (w' := q205.2) (g := []) (K := []) (by decide +kernel) rfl rfl rfl rfl jk0 ?_
                                                    obtain ⟨hg207, h⟩ := jgd h
                                                    refine ev_sld hLs (by decide +kernel) hg207 ?_
                                                    refine ev_seg (o := 11) (nL := 4) (q := 1115) (xs := [(.aload_n 0, 1, 0, 0, .null), (.iload_n 3, 1, 3, 0, .null), (.iconst 3, 1, 0, 0, .int 3), (.iadd, 1, 0, 0, .null)]) (L' := [some (.ref 0), some (.ref 2), some (.ref 93), some (.int x3)]) (st' := [.int (x3 + 3), .ref 0, .int (xs (Int32.toNatClampNeg (x3 + 2))), .int (xs (Int32.toNatClampNeg (x3 + 1))), .ref 93, .int q205.1]) (w' := q205.2) (g := []) (K := []) (by decide +kernel) rfl rfl rfl rfl jk0 ?_
                                                    obtain ⟨hg208, h⟩ := jgd h
                                                    refine ev_sld hLs (by decide +kernel) hg208 ?_
                                                    refine ev_seg (o := 11) (nL := 4) (q := 1120) (xs := [(.aload_n 0, 1, 0, 0, .null), (.iload_n 3, 1, 3, 0, .null), (.iconst 4, 1, 0, 0, .int 4), (.iadd, 1, 0, 0, .null)]) (L' := [some (.ref 0), some (.ref 2), some (.ref 93), some (.int x3)]) (st' := [.int (x3 + 4), .ref 0, .int (xs (Int32.toNatClampNeg (x3 + 3))), .int (xs (Int32.toNatClampNeg (x3 + 2))), .int (xs (Int32.toNatClampNeg (x3 + 1))), .ref 93, .int q205.1]) (w' := q205.2) (g := []) (K := []) (by decide +kernel) rfl rfl rfl rfl jk0 ?_
                                                    obtain ⟨hg209, h⟩ := jgd h
                                                    refine ev_sld hLs (by decide +kernel) hg209 ?_
                                                    obtain ⟨q210, hq210, h⟩ := jbe h
                                                    refine ev_callV (ci := 10) (a := 93) (y2 := y_Model_toldAt) (o := 11) (idx := 112) (d2 := d_Model_toldAt) (n := 4) (mc2 := 0) (ms2 := 0) (As := [.int (xs (Int32.toNatClampNeg (x3 + 1))), .int (xs (Int32.toNatClampNeg (x3 + 2))), .int (xs (Int32.toNatClampNeg (x3 + 3))), .int (xs (Int32.toNatClampNeg (x3 + 4)))]) (st := [.int q205.1]) (res2 := (some (.int q210.1), jR0, q210.2)) (by decide +kernel) rfl lk_11_112 mo_Model_toldAt mv_Model_toldAt ⟨Nat.le_of_ble_eq_true rfl, Nat.le_of_ble_eq_true rfl⟩ rfl rfl kz_93 (by decide) rfl (Nat.le_of_ble_eq_true rfl) ⟨Nat.le_of_ble_eq_true rfl, Nat.le_of_ble_eq_true rfl⟩ hG (e_Model_toldAt hG hq210) ?_
                                                    refine ev_icmp_eq (off := 885) (tgt := 2009) (by decide +kernel) (by decide) (fun c211 => ?_) (fun c211 => ?_)
                                                    · replace h := jpos c211 h
                                                      refine ev_seg (o := 11) (nL := 4) (q := 18) (xs := [(.iinc 3 8, 3, 3, 0, .int 8), (.goto (-1994), 3, 0, 0, .null)]) (L' := [some (.ref 0), some (.ref 2), some (.ref 93), some (.int (x3 + 8))]) (st' := []) (w' := q210.2) (g := []) (K := []) (by decide +kernel) rfl rfl rfl rfl jk0 ?_
                                                      refine ev_mask [true, true, true, true] ?_
                                                      exact ih _ _ _ h
                                                    · replace h := jneg c211 h
                                                      refine ev_seg (o := 11) (nL := 4) (q := 1128) (xs := [(.iconst 0, 1, 0, 0, .int 0)]) (L' := [some (.ref 0), some (.ref 2), some (.ref 93), some (.int x3)]) (st' := [.int 0]) (w' := q210.2) (g := []) (K := []) (by decide +kernel) rfl rfl rfl rfl jk0 ?_
                                                      cases h
                                                      exact ev_zret (by decide +kernel) rfl rfl rfl rfl rfl
                                                  · replace h := jneg c200 h
                                                    by_cases c212 : ((xs (Int32.toNatClampNeg x3)) &&& 63) = 23
                                                    · replace h := jpos c212 h
                                                      refine ev_tableIn (dflt := 1976) (lo := 0) (hi := 44) (offs := #[195, 280, 323, 356, 419, 462, 515, 548, 571, 594, 617, 650, 683, 716, 779, 802, 825, 848, 881, 924, 957, 1000, 1043, 1096, 1129, 1162, 1195, 1218, 1297, 1350, 1393, 1426, 1449, 1482, 1515, 1558, 1591, 1651, 1721, 1808, 1841, 1874, 1927, 1940, 1953]) (len := 195) (off := 1096) (tgt := 1129) (by decide +kernel) (by rw [c212]; decide) (by rw [c212]; decide) (by rw [c212]; decide) (by decide) ?_
                                                      refine ev_seg (o := 11) (nL := 4) (q := 1134) (xs := [(.aload_n 1, 1, 1, 0, .null), (.aload_n 0, 1, 0, 0, .null), (.iload_n 3, 1, 3, 0, .null), (.iconst 1, 1, 0, 0, .int 1), (.iadd, 1, 0, 0, .null)]) (L' := [some (.ref 0), some (.ref 2), some (.ref 93), some (.int x3)]) (st' := [.int (x3 + 1), .ref 0, .ref 2]) (w' := w) (g := []) (K := []) (by decide +kernel) rfl rfl rfl rfl jk0 ?_
                                                      obtain ⟨hg213, h⟩ := jgd h
                                                      refine ev_sld hLs (by decide +kernel) hg213 ?_
                                                      refine ev_seg (o := 11) (nL := 4) (q := 1139) (xs := [(.aload_n 0, 1, 0, 0, .null), (.iload_n 3, 1, 3, 0, .null), (.iconst 2, 1, 0, 0, .int 2), (.iadd, 1, 0, 0, .null)]) (L' := [some (.ref 0), some (.ref 2), some (.ref 93), some (.int x3)]) (st' := [.int (x3 + 2), .ref 0, .int (xs (Int32.toNatClampNeg (x3 + 1))), .ref 2]) (w' := w) (g := []) (K := []) (by decide +kernel) rfl rfl rfl rfl jk0 ?_
                                                      obtain ⟨hg214, h⟩ := jgd h
                                                      refine ev_sld hLs (by decide +kernel) hg214 ?_
                                                      obtain ⟨q215, hq215, h⟩ := jbe h
                                                      refine ev_callV (ci := 9) (a := 2) (y2 := y_Count_visit) (o := 11) (idx := 113) (d2 := d_Count_visit) (n := 2) (mc2 := 0) (ms2 := 0) (As := [.int (xs (Int32.toNatClampNeg (x3 + 1))), .int (xs (Int32.toNatClampNeg (x3 + 2)))]) (st := []) (res2 := (some (.int q215.1), jR0, q215.2)) (by decide +kernel) rfl lk_11_113 mo_Count_visit mv_Count_visit ⟨Nat.le_of_ble_eq_true rfl, Nat.le_of_ble_eq_true rfl⟩ rfl rfl kz_2 (by decide) rfl (Nat.le_of_ble_eq_true rfl) ⟨Nat.le_of_ble_eq_true rfl, Nat.le_of_ble_eq_true rfl⟩ hG (e_Count_visit hG hq215) ?_
                                                      refine ev_seg (o := 11) (nL := 4) (q := 1148) (xs := [(.aload_n 2, 1, 2, 0, .null), (.aload_n 0, 1, 0, 0, .null), (.iload_n 3, 1, 3, 0, .null), (.iconst 1, 1, 0, 0, .int 1), (.iadd, 1, 0, 0, .null)]) (L' := [some (.ref 0), some (.ref 2), some (.ref 93), some (.int x3)]) (st' := [.int (x3 + 1), .ref 0, .ref 93, .int q215.1]) (w' := q215.2) (g := []) (K := []) (by decide +kernel) rfl rfl rfl rfl jk0 ?_
                                                      obtain ⟨hg216, h⟩ := jgd h
                                                      refine ev_sld hLs (by decide +kernel) hg216 ?_
                                                      refine ev_seg (o := 11) (nL := 4) (q := 1153) (xs := [(.aload_n 0, 1, 0, 0, .null), (.iload_n 3, 1, 3, 0, .null), (.iconst 2, 1, 0, 0, .int 2), (.iadd, 1, 0, 0, .null)]) (L' := [some (.ref 0), some (.ref 2), some (.ref 93), some (.int x3)]) (st' := [.int (x3 + 2), .ref 0, .int (xs (Int32.toNatClampNeg (x3 + 1))), .ref 93, .int q215.1]) (w' := q215.2) (g := []) (K := []) (by decide +kernel) rfl rfl rfl rfl jk0 ?_
                                                      obtain ⟨hg217, h⟩ := jgd h
                                                      refine ev_sld hLs (by decide +kernel) hg217 ?_
                                                      obtain ⟨q218, hq218, h⟩ := jbe h
                                                      refine ev_callV (ci := 10) (a := 93) (y2 := y_Model_visit) (o := 11) (idx := 116) (d2 := d_Model_visit) (n := 2) (mc2 := 0) (ms2 := 0) (As := [.int (xs (Int32.toNatClampNeg (x3 + 1))), .int (xs (Int32.toNatClampNeg (x3 + 2)))]) (st := [.int q215.1]) (res2 := (some (.int q218.1), jR0, q218.2)) (by decide +kernel) rfl lk_11_116 mo_Model_visit mv_Model_visit ⟨Nat.le_of_ble_eq_true rfl, Nat.le_of_ble_eq_true rfl⟩ rfl rfl kz_93 (by decide) rfl (Nat.le_of_ble_eq_true rfl) ⟨Nat.le_of_ble_eq_true rfl, Nat.le_of_ble_eq_true rfl⟩ hG (e_Model_visit hG hq218) ?_
                                                      refine ev_icmp_eq (off := 852) (tgt := 2009) (by decide +kernel) (by decide) (fun c219 => ?_) (fun c219 => ?_)
                                                      · replace h := jpos c219 h
                                                        refine ev_seg (o := 11) (nL := 4) (q := 18) (xs := [(.iinc 3 8, 3, 3, 0, .int 8), (.goto (-1994), 3, 0, 0, .null)]) (L' := [some (.ref 0), some (.ref 2), some (.ref 93), some (.int (x3 + 8))]) (st' := []) (w' := q218.2) (g := []) (K := []) (by decide +kernel) rfl rfl rfl rfl jk0 ?_
                                                        refine ev_mask [true, true, true, true] ?_
                                                        exact ih _ _ _ h
                                                      · replace h := jneg c219 h
                                                        refine ev_seg (o := 11) (nL := 4) (q := 1161) (xs := [(.iconst 0, 1, 0, 0, .int 0)]) (L' := [some (.ref 0), some (.ref 2), some (.ref 93), some (.int x3)]) (st' := [.int 0]) (w' := q218.2) (g := []) (K := []) (by decide +kernel) rfl rfl rfl rfl jk0 ?_
                                                        cases h
                                                        exact ev_zret (by decide +kernel) rfl rfl rfl rfl rfl
                                                    · replace h := jneg c212 h
                                                      by_cases c220 : ((xs (Int32.toNatClampNeg x3)) &&& 63) = 24
                                                      · replace h := jpos c220 h
                                                        refine ev_tableIn (dflt := 1976) (lo := 0) (hi := 44) (offs := #[195, 280, 323, 356, 419, 462, 515, 548, 571, 594, 617, 650, 683, 716, 779, 802, 825, 848, 881, 924, 957, 1000, 1043, 1096, 1129, 1162, 1195, 1218, 1297, 1350, 1393, 1426, 1449, 1482, 1515, 1558, 1591, 1651, 1721, 1808, 1841, 1874, 1927, 1940, 1953]) (len := 195) (off := 1129) (tgt := 1162) (by decide +kernel) (by rw [c220]; decide) (by rw [c220]; decide) (by rw [c220]; decide) (by decide) ?_
                                                        refine ev_seg (o := 11) (nL := 4) (q := 1167) (xs := [(.aload_n 1, 1, 1, 0, .null), (.aload_n 0, 1, 0, 0, .null), (.iload_n 3, 1, 3, 0, .null), (.iconst 1, 1, 0, 0, .int 1), (.iadd, 1, 0, 0, .null)]) (L' := [some (.ref 0), some (.ref 2), some (.ref 93), some (.int x3)]) (st' := [.int (x3 + 1), .ref 0, .ref 2]) (w' := w) (g := []) (K := []) (by decide +kernel) rfl rfl rfl rfl jk0 ?_
                                                        obtain ⟨hg221, h⟩ := jgd h
                                                        refine ev_sld hLs (by decide +kernel) hg221 ?_
                                                        refine ev_seg (o := 11) (nL := 4) (q := 1172) (xs := [(.aload_n 0, 1, 0, 0, .null), (.iload_n 3, 1, 3, 0, .null), (.iconst 2, 1, 0, 0, .int 2), (.iadd, 1, 0, 0, .null)]) (L' := [some (.ref 0), some (.ref 2), some (.ref 93), some (.int x3)]) (st' := [.int (x3 + 2), .ref 0, .int (xs (Int32.toNatClampNeg (x3 + 1))), .ref 2]) (w' := w) (g := []) (K := []) (by decide +kernel) rfl rfl rfl rfl jk0 ?_
                                                        obtain ⟨hg222, h⟩ := jgd h
                                                        refine ev_sld hLs (by decide +kernel) hg222 ?_
                                                        obtain ⟨q223, hq223, h⟩ := jbe h
                                                        refine ev_callV (ci := 9) (a := 2) (y2 := y_Count_saw) (o := 11) (idx := 117) (d2 := d_Count_saw) (n := 2) (mc2 := 0) (ms2 := 0) (As := [.int (xs (Int32.toNatClampNeg (x3 + 1))), .int (xs (Int32.toNatClampNeg (x3 + 2)))]) (st := []) (res2 := (some (.int q223.1), jR0, q223.2)) (by decide +kernel) rfl lk_11_117 mo_Count_saw mv_Count_saw ⟨Nat.le_of_ble_eq_true rfl, Nat.le_of_ble_eq_true rfl⟩ rfl rfl kz_2 (by decide) rfl (Nat.le_of_ble_eq_true rfl) ⟨Nat.le_of_ble_eq_true rfl, Nat.le_of_ble_eq_true rfl⟩ hG (e_Count_saw hG hq223) ?_
                                                        refine ev_seg (o := 11) (nL := 4) (q := 1181) (xs := [(.aload_n 2, 1, 2, 0, .null), (.aload_n 0, 1, 0, 0, .null), (.iload_n 3, 1, 3, 0, .null), (.iconst 1, 1, 0, 0, .int 1), (.iadd, 1, 0, 0, .null)]) (L' := [some (.ref 0), some (.ref 2), some (.ref 93), some (.int x3)]) (st' := [.int (x3 + 1), .ref 0, .ref 93, .int q223.1]) (w' := q223.2) (g := []) (K := []) (by decide +kernel) rfl rfl rfl rfl jk0 ?_
                                                        obtain ⟨hg224, h⟩ := jgd h
                                                        refine ev_sld hLs (by decide +kernel) hg224 ?_
                                                        refine ev_seg (o := 11) (nL := 4) (q := 1186) (xs := [(.aload_n 0, 1, 0, 0, .null), (.iload_n 3, 1, 3, 0, .null), (.iconst 2, 1, 0, 0, .int 2), (.iadd, 1, 0, 0, .null)]) (L' := [some (.ref 0), some (.ref 2), some (.ref 93), some (.int x3)]) (st' := [.int (x3 + 2), .ref 0, .int (xs (Int32.toNatClampNeg (x3 + 1))), .ref 93, .int q223.1]) (w' := q223.2) (g := []) (K := []) (by decide +kernel) rfl rfl rfl rfl jk0 ?_
                                                        obtain ⟨hg225, h⟩ := jgd h
                                                        refine ev_sld hLs (by decide +kernel) hg225 ?_
                                                        obtain ⟨q226, hq226, h⟩ := jbe h
                                                        refine ev_callV (ci := 10) (a := 93) (y2 := y_Model_saw) (o := 11) (idx := 120) (d2 := d_Model_saw) (n := 2) (mc2 := 0) (ms2 := 0) (As := [.int (xs (Int32.toNatClampNeg (x3 + 1))), .int (xs (Int32.toNatClampNeg (x3 + 2)))]) (st := [.int q223.1]) (res2 := (some (.int q226.1), jR0, q226.2)) (by decide +kernel) rfl lk_11_120 mo_Model_saw mv_Model_saw ⟨Nat.le_of_ble_eq_true rfl, Nat.le_of_ble_eq_true rfl⟩ rfl rfl kz_93 (by decide) rfl (Nat.le_of_ble_eq_true rfl) ⟨Nat.le_of_ble_eq_true rfl, Nat.le_of_ble_eq_true rfl⟩ hG (e_Model_saw hG hq226) ?_
                                                        refine ev_icmp_eq (off := 819) (tgt := 2009) (by decide +kernel) (by decide) (fun c227 => ?_) (fun c227 => ?_)
                                                        · replace h := jpos c227 h
                                                          refine ev_seg (o := 11) (nL := 4) (q := 18) (xs := [(.iinc 3 8, 3, 3, 0, .int 8), (.goto (-1994), 3, 0, 0, .null)]) (L' := [some (.ref 0), some (.ref 2), some (.ref 93), some (.int (x3 + 8))]) (st' := []) (w' := q226.2) (g := []) (K := []) (by decide +kernel) rfl rfl rfl rfl jk0 ?_
                                                          refine ev_mask [true, true, true, true] ?_
                                                          exact ih _ _ _ h
                                                        · replace h := jneg c227 h
                                                          refine ev_seg (o := 11) (nL := 4) (q := 1194) (xs := [(.iconst 0, 1, 0, 0, .int 0)]) (L' := [some (.ref 0), some (.ref 2), some (.ref 93), some (.int x3)]) (st' := [.int 0]) (w' := q226.2) (g := []) (K := []) (by decide +kernel) rfl rfl rfl rfl jk0 ?_
                                                          cases h
                                                          exact ev_zret (by decide +kernel) rfl rfl rfl rfl rfl
                                                      · replace h := jneg c220 h
                                                        by_cases c228 : ((xs (Int32.toNatClampNeg x3)) &&& 63) = 25
                                                        · replace h := jpos c228 h
                                                          refine ev_tableIn (dflt := 1976) (lo := 0) (hi := 44) (offs := #[195, 280, 323, 356, 419, 462, 515, 548, 571, 594, 617, 650, 683, 716, 779, 802, 825, 848, 881, 924, 957, 1000, 1043, 1096, 1129, 1162, 1195, 1218, 1297, 1350, 1393, 1426, 1449, 1482, 1515, 1558, 1591, 1651, 1721, 1808, 1841, 1874, 1927, 1940, 1953]) (len := 195) (off := 1162) (tgt := 1195) (by decide +kernel) (by rw [c228]; decide) (by rw [c228]; decide) (by rw [c228]; decide) (by decide) ?_
                                                          refine ev_seg (o := 11) (nL := 4) (q := 1200) (xs := [(.aload_n 1, 1, 1, 0, .null), (.aload_n 0, 1, 0, 0, .null), (.iload_n 3, 1, 3, 0, .null), (.iconst 1, 1, 0, 0, .int 1), (.iadd, 1, 0, 0, .null)]) (L' := [some (.ref 0), some (.ref 2), some (.ref 93), some (.int x3)]) (st' := [.int (x3 + 1), .ref 0, .ref 2]) (w' := w) (g := []) (K := []) (by decide +kernel) rfl rfl rfl rfl jk0 ?_
                                                          obtain ⟨hg229, h⟩ := jgd h
                                                          refine ev_sld hLs (by decide +kernel) hg229 ?_
                                                          refine ev_seg (o := 11) (nL := 4) (q := 1205) (xs := [(.aload_n 0, 1, 0, 0, .null), (.iload_n 3, 1, 3, 0, .null), (.iconst 2, 1, 0, 0, .int 2), (.iadd, 1, 0, 0, .null)]) (L' := [some (.ref 0), some (.ref 2), some (.ref 93), some (.int x3)]) (st' := [.int (x3 + 2), .ref 0, .int (xs (Int32.toNatClampNeg (x3 + 1))), .ref 2]) (w' := w) (g := []) (K := []) (by decide +kernel) rfl rfl rfl rfl jk0 ?_
                                                          obtain ⟨hg230, h⟩ := jgd h
                                                          refine ev_sld hLs (by decide +kernel) hg230 ?_
                                                          obtain ⟨q231, hq231, h⟩ := jbe h
                                                          refine ev_callV (ci := 9) (a := 2) (y2 := y_Count_cloud) (o := 11) (idx := 121) (d2 := d_Count_cloud) (n := 2) (mc2 := 0) (ms2 := 0) (As := [.int (xs (Int32.toNatClampNeg (x3 + 1))), .int (xs (Int32.toNatClampNeg (x3 + 2)))]) (st := []) (res2 := (some (.int q231.1), jR0, q231.2)) (by decide +kernel) rfl lk_11_121 mo_Count_cloud mv_Count_cloud ⟨Nat.le_of_ble_eq_true rfl, Nat.le_of_ble_eq_true rfl⟩ rfl rfl kz_2 (by decide) rfl (Nat.le_of_ble_eq_true rfl) ⟨Nat.le_of_ble_eq_true rfl, Nat.le_of_ble_eq_true rfl⟩ hG (e_Count_cloud hG hq231) ?_
                                                          refine ev_seg (o := 11) (nL := 4) (q := 1214) (xs := [(.aload_n 2, 1, 2, 0, .null), (.aload_n 0, 1, 0, 0, .null), (.iload_n 3, 1, 3, 0, .null), (.iconst 1, 1, 0, 0, .int 1), (.iadd, 1, 0, 0, .null)]) (L' := [some (.ref 0), some (.ref 2), some (.ref 93), some (.int x3)]) (st' := [.int (x3 + 1), .ref 0, .ref 93, .int q231.1]) (w' := q231.2) (g := []) (K := []) (by decide +kernel) rfl rfl rfl rfl jk0 ?_
                                                          obtain ⟨hg232, h⟩ := jgd h
                                                          refine ev_sld hLs (by decide +kernel) hg232 ?_
                                                          refine ev_seg (o := 11) (nL := 4) (q := 1219) (xs := [(.aload_n 0, 1, 0, 0, .null), (.iload_n 3, 1, 3, 0, .null), (.iconst 2, 1, 0, 0, .int 2), (.iadd, 1, 0, 0, .null)]) (L' := [some (.ref 0), some (.ref 2), some (.ref 93), some (.int x3)]) (st' := [.int (x3 + 2), .ref 0, .int (xs (Int32.toNatClampNeg (x3 + 1))), .ref 93, .int q231.1]) (w' := q231.2) (g := []) (K := []) (by decide +kernel) rfl rfl rfl rfl jk0 ?_
                                                          obtain ⟨hg233, h⟩ := jgd h
                                                          refine ev_sld hLs (by decide +kernel) hg233 ?_
                                                          obtain ⟨q234, hq234, h⟩ := jbe h
                                                          refine ev_callV (ci := 10) (a := 93) (y2 := y_Model_cloud) (o := 11) (idx := 124) (d2 := d_Model_cloud) (n := 2) (mc2 := 0) (ms2 := 0) (As := [.int (xs (Int32.toNatClampNeg (x3 + 1))), .int (xs (Int32.toNatClampNeg (x3 + 2)))]) (st := [.int q231.1]) (res2 := (some (.int q234.1), jR0, q234.2)) (by decide +kernel) rfl lk_11_124 mo_Model_cloud mv_Model_cloud ⟨Nat.le_of_ble_eq_true rfl, Nat.le_of_ble_eq_true rfl⟩ rfl rfl kz_93 (by decide) rfl (Nat.le_of_ble_eq_true rfl) ⟨Nat.le_of_ble_eq_true rfl, Nat.le_of_ble_eq_true rfl⟩ hG (e_Model_cloud hG hq234) ?_
                                                          refine ev_icmp_eq (off := 786) (tgt := 2009) (by decide +kernel) (by decide) (fun c235 => ?_) (fun c235 => ?_)
                                                          · replace h := jpos c235 h
                                                            refine ev_seg (o := 11) (nL := 4) (q := 18) (xs := [(.iinc 3 8, 3, 3, 0, .int 8), (.goto (-1994), 3, 0, 0, .null)]) (L' := [some (.ref 0), some (.ref 2), some (.ref 93), some (.int (x3 + 8))]) (st' := []) (w' := q234.2) (g := []) (K := []) (by decide +kernel) rfl rfl rfl rfl jk0 ?_
                                                            refine ev_mask [true, true, true, true] ?_
                                                            exact ih _ _ _ h
                                                          · replace h := jneg c235 h
                                                            refine ev_seg (o := 11) (nL := 4) (q := 1227) (xs := [(.iconst 0, 1, 0, 0, .int 0)]) (L' := [some (.ref 0), some (.ref 2), some (.ref 93), some (.int x3)]) (st' := [.int 0]) (w' := q234.2) (g := []) (K := []) (by decide +kernel) rfl rfl rfl rfl jk0 ?_
                                                            cases h
                                                            exact ev_zret (by decide +kernel) rfl rfl rfl rfl rfl
                                                        · replace h := jneg c228 h
                                                          by_cases c236 : ((xs (Int32.toNatClampNeg x3)) &&& 63) = 26
                                                          · replace h := jpos c236 h
                                                            refine ev_tableIn (dflt := 1976) (lo := 0) (hi := 44) (offs := #[195, 280, 323, 356, 419, 462, 515, 548, 571, 594, 617, 650, 683, 716, 779, 802, 825, 848, 881, 924, 957, 1000, 1043, 1096, 1129, 1162, 1195, 1218, 1297, 1350, 1393, 1426, 1449, 1482, 1515, 1558, 1591, 1651, 1721, 1808, 1841, 1874, 1927, 1940, 1953]) (len := 195) (off := 1195) (tgt := 1228) (by decide +kernel) (by rw [c236]; decide) (by rw [c236]; decide) (by rw [c236]; decide) (by decide) ?_
                                                            refine ev_seg (o := 11) (nL := 4) (q := 1233) (xs := [(.aload_n 1, 1, 1, 0, .null), (.aload_n 0, 1, 0, 0, .null), (.iload_n 3, 1, 3, 0, .null), (.iconst 1, 1, 0, 0, .int 1), (.iadd, 1, 0, 0, .null)]) (L' := [some (.ref 0), some (.ref 2), some (.ref 93), some (.int x3)]) (st' := [.int (x3 + 1), .ref 0, .ref 2]) (w' := w) (g := []) (K := []) (by decide +kernel) rfl rfl rfl rfl jk0 ?_
                                                            obtain ⟨hg237, h⟩ := jgd h
                                                            refine ev_sld hLs (by decide +kernel) hg237 ?_
                                                            obtain ⟨q238, hq238, h⟩ := jbe h
                                                            refine ev_callV (ci := 9) (a := 2) (y2 := y_Count_picture) (o := 11) (idx := 125) (d2 := d_Count_picture) (n := 1) (mc2 := 0) (ms2 := 0) (As := [.int (xs (Int32.toNatClampNeg (x3 + 1)))]) (st := []) (res2 := (some (.int q238.1), jR0, q238.2)) (by decide +kernel) rfl lk_11_125 mo_Count_picture mv_Count_picture ⟨Nat.le_of_ble_eq_true rfl, Nat.le_of_ble_eq_true rfl⟩ rfl rfl kz_2 (by decide) rfl (Nat.le_of_ble_eq_true rfl) ⟨Nat.le_of_ble_eq_true rfl, Nat.le_of_ble_eq_true rfl⟩ hG (e_Count_picture hG hq238) ?_
                                                            refine ev_seg (o := 11) (nL := 4) (q := 1242) (xs := [(.aload_n 2, 1, 2, 0, .null), (.aload_n 0, 1, 0, 0, .null), (.iload_n 3, 1, 3, 0, .null), (.iconst 1, 1, 0, 0, .int 1), (.iadd, 1, 0, 0, .null)]) (L' := [some (.ref 0), some (.ref 2), some (.ref 93), some (.int x3)]) (st' := [.int (x3 + 1), .ref 0, .ref 93, .int q238.1]) (w' := q238.2) (g := []) (K := []) (by decide +kernel) rfl rfl rfl rfl jk0 ?_
                                                            obtain ⟨hg239, h⟩ := jgd h
                                                            refine ev_sld hLs (by decide +kernel) hg239 ?_
                                                            obtain ⟨q240, hq240, h⟩ := jbe h
                                                            refine ev_callV (ci := 10) (a := 93) (y2 := y_Model_picture) (o := 11) (idx := 128) (d2 := d_Model_picture) (n := 1) (mc2 := 0) (ms2 := 0) (As := [.int (xs (Int32.toNatClampNeg (x3 + 1)))]) (st := [.int q238.1]) (res2 := (some (.int q240.1), jR0, q240.2)) (by decide +kernel) rfl lk_11_128 mo_Model_picture mv_Model_picture ⟨Nat.le_of_ble_eq_true rfl, Nat.le_of_ble_eq_true rfl⟩ rfl rfl kz_93 (by decide) rfl (Nat.le_of_ble_eq_true rfl) ⟨Nat.le_of_ble_eq_true rfl, Nat.le_of_ble_eq_true rfl⟩ hG (e_Model_picture hG hq240) ?_
                                                            refine ev_icmp_eq (off := 763) (tgt := 2009) (by decide +kernel) (by decide) (fun c241 => ?_) (fun c241 => ?_)
                                                            · replace h := jpos c241 h
                                                              refine ev_seg (o := 11) (nL := 4) (q := 18) (xs := [(.iinc 3 8, 3, 3, 0, .int 8), (.goto (-1994), 3, 0, 0, .null)]) (L' := [some (.ref 0), some (.ref 2), some (.ref 93), some (.int (x3 + 8))]) (st' := []) (w' := q240.2) (g := []) (K := []) (by decide +kernel) rfl rfl rfl rfl jk0 ?_
                                                              refine ev_mask [true, true, true, true] ?_
                                                              exact ih _ _ _ h
                                                            · replace h := jneg c241 h
                                                              refine ev_seg (o := 11) (nL := 4) (q := 1250) (xs := [(.iconst 0, 1, 0, 0, .int 0)]) (L' := [some (.ref 0), some (.ref 2), some (.ref 93), some (.int x3)]) (st' := [.int 0]) (w' := q240.2) (g := []) (K := []) (by decide +kernel) rfl rfl rfl rfl jk0 ?_
                                                              cases h
                                                              exact ev_zret (by decide +kernel) rfl rfl rfl rfl rfl
                                                          · replace h := jneg c236 h
                                                            by_cases c242 : ((xs (Int32.toNatClampNeg x3)) &&& 63) = 27
                                                            · replace h := jpos c242 h
                                                              refine ev_tableIn (dflt := 1976) (lo := 0) (hi := 44) (offs := #[195, 280, 323, 356, 419, 462, 515, 548, 571, 594, 617, 650, 683, 716, 779, 802, 825, 848, 881, 924, 957, 1000, 1043, 1096, 1129, 1162, 1195, 1218, 1297, 1350, 1393, 1426, 1449, 1482, 1515, 1558, 1591, 1651, 1721, 1808, 1841, 1874, 1927, 1940, 1953]) (len := 195) (off := 1218) (tgt := 1251) (by decide +kernel) (by rw [c242]; decide) (by rw [c242]; decide) (by rw [c242]; decide) (by decide) ?_
                                                              refine ev_seg (o := 11) (nL := 4) (q := 1256) (xs := [(.aload_n 1, 1, 1, 0, .null), (.aload_n 0, 1, 0, 0, .null), (.iload_n 3, 1, 3, 0, .null), (.iconst 1, 1, 0, 0, .int 1), (.iadd, 1, 0, 0, .null)]) (L' := [some (.ref 0), some (.ref 2), some (.ref 93), some (.int x3)]) (st' := [.int (x3 + 1), .ref 0, .ref 2]) (w' := w) (g := []) (K := []) (by decide +kernel) rfl rfl rfl rfl jk0 ?_
                                                              obtain ⟨hg243, h⟩ := jgd h
                                                              refine ev_sld hLs (by decide +kernel) hg243 ?_
                                                              refine ev_seg (o := 11) (nL := 4) (q := 1261) (xs := [(.aload_n 0, 1, 0, 0, .null), (.iload_n 3, 1, 3, 0, .null), (.iconst 2, 1, 0, 0, .int 2), (.iadd, 1, 0, 0, .null)]) (L' := [some (.ref 0), some (.ref 2), some (.ref 93), some (.int x3)]) (st' := [.int (x3 + 2), .ref 0, .int (xs (Int32.toNatClampNeg (x3 + 1))), .ref 2]) (w' := w) (g := []) (K := []) (by decide +kernel) rfl rfl rfl rfl jk0 ?_
                                                              obtain ⟨hg244, h⟩ := jgd h
                                                              refine ev_sld hLs (by decide +kernel) hg244 ?_
                                                              refine ev_seg (o := 11) (nL := 4) (q := 1266) (xs := [(.aload_n 0, 1, 0, 0, .null), (.iload_n 3, 1, 3, 0, .null), (.iconst 3, 1, 0, 0, .int 3), (.iadd, 1, 0, 0, .null)]) (L' := [some (.ref 0), some (.ref 2), some (.ref 93), some (.int x3)]) (st' := [.int (x3 + 3), .ref 0, .int (xs (Int32.toNatClampNeg (x3 + 2))), .int (xs (Int32.toNatClampNeg (x3 + 1))), .ref 2]) (w' := w) (g := []) (K := []) (by decide +kernel) rfl rfl rfl rfl jk0 ?_
                                                              obtain ⟨hg245, h⟩ := jgd h
                                                              refine ev_sld hLs (by decide +kernel) hg245 ?_
                                                              refine ev_seg (o := 11) (nL := 4) (q := 1271) (xs := [(.aload_n 0, 1, 0, 0, .null), (.iload_n 3, 1, 3, 0, .null), (.iconst 4, 1, 0, 0, .int 4), (.iadd, 1, 0, 0, .null)]) (L' := [some (.ref 0), some (.ref 2), some (.ref 93), some (.int x3)]) (st' := [.int (x3 + 4), .ref 0, .int (xs (Int32.toNatClampNeg (x3 + 3))), .int (xs (Int32.toNatClampNeg (x3 + 2))), .int (xs (Int32.toNatClampNeg (x3 + 1))), .ref 2]) (w' := w) (g := []) (K := []) (by decide +kernel) rfl rfl rfl rfl jk0 ?_
                                                              obtain ⟨hg246, h⟩ := jgd h
                                                              refine ev_sld hLs (by decide +kernel) hg246 ?_
                                                              refine ev_seg (o := 11) (nL := 4) (q := 1276) (xs := [(.aload_n 0, 1, 0, 0, .null), (.iload_n 3, 1, 3, 0, .null), (.iconst 5, 1, 0, 0, .int 5), (.iadd, 1, 0, 0, .null)]) (L' := [some (.ref 0), some (.ref 2), some (.ref 93), some (.int x3)]) (st' := [.int (x3 + 5), .ref 0, .int (xs (Int32.toNatClampNeg (x3 + 4))), .int (xs (Int32.toNatClampNeg (x3 + 3))), .int (xs (Int32.toNatClampNeg (x3 + 2))), .int (xs (Int32.toNatClampNeg (x3 + 1))), .ref 2]) (w' := w) (g := []) (K := []) (by decide +kernel) rfl rfl rfl rfl jk0 ?_
                                                              obtain ⟨hg247, h⟩ := jgd h
                                                              refine ev_sld hLs (by decide +kernel) hg247 ?_
                                                              refine ev_if_eq (off := 7) (tgt := 1284) (by decide +kernel) (by decide) (fun c257 => ?_) (fun c257 => ?_)
                                                              · replace h := jpos c257 h
                                                                refine ev_seg (o := 11) (nL := 4) (q := 1285) (xs := [(.iconst 0, 1, 0, 0, .int 0)]) (L' := [some (.ref 0), some (.ref 2), some (.ref 93), some (.int x3)]) (st' := [.int 0, .int (xs (Int32.toNatClampNeg (x3 + 4))), .int (xs (Int32.toNatClampNeg (x3 + 3))), .int (xs (Int32.toNatClampNeg (x3 + 2))), .int (xs (Int32.toNatClampNeg (x3 + 1))), .ref 2]) (w' := w) (g := []) (K := []) (by decide +kernel) rfl rfl rfl rfl jk0 ?_
                                                                refine ev_mask [true, true, true, true] ?_
                                                                exact t_Law_law_j1285 hG hxs hLs ih h
                                                              · replace h := jneg c257 h
                                                                refine ev_seg (o := 11) (nL := 4) (q := 1285) (xs := [(.iconst 1, 1, 0, 0, .int 1), (.goto 4, 3, 0, 0, .null)]) (L' := [some (.ref 0), some (.ref 2), some (.ref 93), some (.int x3)]) (st' := [.int 1, .int (xs (Int32.toNatClampNeg (x3 + 4))), .int (xs (Int32.toNatClampNeg (x3 + 3))), .int (xs (Int32.toNatClampNeg (x3 + 2))), .int (xs (Int32.toNatClampNeg (x3 + 1))), .ref 2]) (w' := w) (g := []) (K := []) (by decide +kernel) rfl rfl rfl rfl jk0 ?_
                                                                refine ev_mask [true, true, true, true] ?_
                                                                exact t_Law_law_j1285 hG hxs hLs ih h
                                                            · replace h := jneg c242 h
                                                              by_cases c258 : ((xs (Int32.toNatClampNeg x3)) &&& 63) = 28
                                                              · replace h := jpos c258 h
                                                                refine ev_tableIn (dflt := 1976) (lo := 0) (hi := 44) (offs := #[195, 280, 323, 356, 419, 462, 515, 548, 571, 594, 617, 650, 683, 716, 779, 802, 825, 848, 881, 924, 957, 1000, 1043, 1096, 1129, 1162, 1195, 1218, 1297, 1350, 1393, 1426, 1449, 1482, 1515, 1558, 1591, 1651, 1721, 1808, 1841, 1874, 1927, 1940, 1953]) (len := 195) (off := 1297) (tgt := 1330) (by decide +kernel) (by rw [c258]; decide) (by rw [c258]; decide) (by rw [c258]; decide) (by decide) ?_
                                                                refine ev_seg (o := 11) (nL := 4) (q := 1335) (xs := [(.aload_n 1, 1, 1, 0, .null), (.aload_n 0, 1, 0, 0, .null), (.iload_n 3, 1, 3, 0, .null), (.iconst 1, 1, 0, 0, .int 1), (.iadd, 1, 0, 0, .null)]) (L' := [some (.ref 0), some (.ref 2), some (.ref 93), some (.int x3)]) (st' := [.int (x3 + 1), .ref 0, .ref 2]) (w' := w) (g := []) (K := []) (by decide +kernel) rfl rfl rfl rfl jk0 ?_
                                                                obtain ⟨hg259, h⟩ := jgd h
                                                                refine ev_sld hLs (by decide +kernel) hg259 ?_
                                                                refine ev_seg (o := 11) (nL := 4) (q := 1340) (xs := [(.aload_n 0, 1, 0, 0, .null), (.iload_n 3, 1, 3, 0, .null), (.iconst 2, 1, 0, 0, .int 2), (.iadd, 1, 0, 0, .null)]) (L' := [some (.ref 0), some (.ref 2), some (.ref 93), some (.int x3)]) (st' := [.int (x3 + 2), .ref 0, .int (xs (Int32.toNatClampNeg (x3 + 1))), .ref 2]) (w' := w) (g := []) (K := []) (by decide +kernel) rfl rfl rfl rfl jk0 ?_
                                                                obtain ⟨hg260, h⟩ := jgd h
                                                                refine ev_sld hLs (by decide +kernel) hg260 ?_
                                                                refine ev_seg (o := 11) (nL := 4) (q := 1345) (xs := [(.aload_n 0, 1, 0, 0, .null), (.iload_n 3, 1, 3, 0, .null), (.iconst 3, 1, 0, 0, .int 3), (.iadd, 1, 0, 0, .null)]) (L' := [some (.ref 0), some (.ref 2), some (.ref 93), some (.int x3)]) (st' := [.int (x3 + 3), .ref 0, .int (xs (Int32.toNatClampNeg (x3 + 2))), .int (xs (Int32.toNatClampNeg (x3 + 1))), .ref 2]) (w' := w) (g := []) (K := []) (by decide +kernel) rfl rfl rfl rfl jk0 ?_
                                                                obtain ⟨hg261, h⟩ := jgd h
                                                                refine ev_sld hLs (by decide +kernel) hg261 ?_
                                                                refine ev_seg (o := 11) (nL := 4) (q := 1350) (xs := [(.aload_n 0, 1, 0, 0, .null), (.iload_n 3, 1, 3, 0, .null), (.iconst 4, 1, 0, 0, .int 4), (.iadd, 1, 0, 0, .null)]) (L' := [some (.ref 0), some (.ref 2), some (.ref 93), some (.int x3)]) (st' := [.int (x3 + 4), .ref 0, .int (xs (Int32.toNatClampNeg (x3 + 3))), .int (xs (Int32.toNatClampNeg (x3 + 2))), .int (xs (Int32.toNatClampNeg (x3 + 1))), .ref 2]) (w' := w) (g := []) (K := []) (by decide +kernel) rfl rfl rfl rfl jk0 ?_
                                                                obtain ⟨hg262, h⟩ := jgd h
                                                                refine ev_sld hLs (by decide +kernel) hg262 ?_
                                                                obtain ⟨q263, hq263, h⟩ := jbe h
                                                                refine ev_callV (ci := 9) (a := 2) (y2 := y_Count_doubted) (o := 11) (idx := 134) (d2 := d_Count_doubted) (n := 4) (mc2 := 0) (ms2 := 0) (As := [.int (xs (Int32.toNatClampNeg (x3 + 1))), .int (xs (Int32.toNatClampNeg (x3 + 2))), .int (xs (Int32.toNatClampNeg (x3 + 3))), .int (xs (Int32.toNatClampNeg (x3 + 4)))]) (st := []) (res2 := (some (.int q263.1), jR0, q263.2)) (by decide +kernel) rfl lk_11_134 mo_Count_doubted mv_Count_doubted ⟨Nat.le_of_ble_eq_true rfl, Nat.le_of_ble_eq_true rfl⟩ rfl rfl kz_2 (by decide) rfl (Nat.le_of_ble_eq_true rfl) ⟨Nat.le_of_ble_eq_true rfl, Nat.le_of_ble_eq_true rfl⟩ hG (e_Count_doubted hG hq263) ?_
                                                                refine ev_seg (o := 11) (nL := 4) (q := 1359) (xs := [(.aload_n 2, 1, 2, 0, .null), (.aload_n 0, 1, 0, 0, .null), (.iload_n 3, 1, 3, 0, .null), (.iconst 1, 1, 0, 0, .int 1), (.iadd, 1, 0, 0, .null)]) (L' := [some (.ref 0), some (.ref 2), some (.ref 93), some (.int x3)]) (st' := [.int (x3 + 1), .ref 0, .ref 93, .int q263.1]) (w' := q263.2) (g := []) (K := []) (by decide +kernel) rfl rfl rfl rfl jk0 ?_
                                                                obtain ⟨hg264, h⟩ := jgd h
                                                                refine ev_sld hLs (by decide +kernel) hg264 ?_
                                                                refine ev_seg (o := 11) (nL := 4) (q := 1364) (xs := [(.aload_n 0, 1, 0, 0, .null), (.iload_n 3, 1, 3, 0, .null), (.iconst 2, 1, 0, 0, .int 2), (.iadd, 1, 0, 0, .null)]) (L' := [some (.ref 0), some (.ref 2), some (.ref 93), some (.int x3)]) (st' := [.int (x3 + 2), .ref 0, .int (xs (Int32.toNatClampNeg (x3 + 1))), .ref 93, .int q263.1]) (w' := q263.2) (g := []) (K := []) (by decide +kernel) rfl rfl rfl rfl jk0 ?_
                                                                obtain ⟨hg265, h⟩ := jgd h
                                                                refine ev_sld hLs (by decide +kernel) hg265 ?_
                                                                refine ev_seg (o := 11) (nL := 4) (q := 1369) (xs := [(.aload_n 0, 1, 0, 0, .null), (.iload_n 3, 1, 3, 0, .null), (.iconst 3, 1, 0, 0, .int 3), (.iadd, 1, 0, 0, .null)]) (L' := [some (.ref 0), some (.ref 2), some (.ref 93), some (.int x3)]) (st' := [.int (x3 + 3), .ref 0, .int (xs (Int32.toNatClampNeg (x3 + 2))), .int (xs (Int32.toNatClampNeg (x3 + 1))), .ref 93, .int q263.1]) (w' := q263.2) (g := []) (K := []) (by decide +kernel) rfl rfl rfl rfl jk0 ?_
                                                                obtain ⟨hg266, h⟩ := jgd h
                                                                refine ev_sld hLs (by decide +kernel) hg266 ?_
                                                                refine ev_seg (o := 11) (nL := 4) (q := 1374) (xs := [(.aload_n 0, 1, 0, 0, .null), (.iload_n 3, 1, 3, 0, .null), (.iconst 4, 1, 0, 0, .int 4), (.iadd, 1, 0, 0, .null)]) (L' := [some (.ref 0), some (.ref 2), some (.ref 93), some (.int x3)]) (st' := [.int (x3 + 4), .ref 0, .int (xs (Int32.toNatClampNeg (x3 + 3))), .int (xs (Int32.toNatClampNeg (x3 + 2))), .int (xs (Int32.toNatClampNeg (x3 + 1))), .ref 93, .int q263.1]) (w' := q263.2) (g := []) (K := []) (by decide +kernel) rfl rfl rfl rfl jk0 ?_
                                                                obtain ⟨hg267, h⟩ := jgd h
                                                                refine ev_sld hLs (by decide +kernel) hg267 ?_
                                                                obtain ⟨q268, hq268, h⟩ := jbe h
                                                                refine ev_callV (ci := 10) (a := 93) (y2 := y_Model_doubted) (o := 11) (idx := 137) (d2 := d_Model_doubted) (n := 4) (mc2 := 0) (ms2 := 0) (As := [.int (xs (Int32.toNatClampNeg (x3 + 1))), .int (xs (Int32.toNatClampNeg (x3 + 2))), .int (xs (Int32.toNatClampNeg (x3 + 3))), .int (xs (Int32.toNatClampNeg (x3 + 4)))]) (st := [.int q263.1]) (res2 := (some (.int q268.1), jR0, q268.2)) (by decide +kernel) rfl lk_11_137 mo_Model_doubted mv_Model_doubted ⟨Nat.le_of_ble_eq_true rfl, Nat.le_of_ble_eq_true rfl⟩ rfl rfl kz_93 (by decide) rfl (Nat.le_of_ble_eq_true rfl) ⟨Nat.le_of_ble_eq_true rfl, Nat.le_of_ble_eq_true rfl⟩ hG (e_Model_doubted hG hq268) ?_
                                                                refine ev_icmp_eq (off := 631) (tgt := 2009) (by decide +kernel) (by decide) (fun c269 => ?_) (fun c269 => ?_)
                                                                · replace h := jpos c269 h
                                                                  refine ev_seg (o := 11) (nL := 4) (q := 18) (xs := [(.iinc 3 8, 3, 3, 0, .int 8), (.goto (-1994), 3, 0, 0, .null)]) (L' := [some (.ref 0), some (.ref 2), some (.ref 93), some (.int (x3 + 8))]) (st' := []) (w' := q268.2) (g := []) (K := []) (by decide +kernel) rfl rfl rfl rfl jk0 ?_
                                                                  refine ev_mask [true, true, true, true] ?_
                                                                  exact ih _ _ _ h
                                                                · replace h := jneg c269 h
                                                                  refine ev_seg (o := 11) (nL := 4) (q := 1382) (xs := [(.iconst 0, 1, 0, 0, .int 0)]) (L' := [some (.ref 0), some (.ref 2), some (.ref 93), some (.int x3)]) (st' := [.int 0]) (w' := q268.2) (g := []) (K := []) (by decide +kernel) rfl rfl rfl rfl jk0 ?_
                                                                  cases h
                                                                  exact ev_zret (by decide +kernel) rfl rfl rfl rfl rfl
                                                              · replace h := jneg c258 h
                                                                by_cases c270 : ((xs (Int32.toNatClampNeg x3)) &&& 63) = 29
                                                                · replace h := jpos c270 h
                                                                  refine ev_tableIn (dflt := 1976) (lo := 0) (hi := 44) (offs := #[195, 280, 323, 356, 419, 462, 515, 548, 571, 594, 617, 650, 683, 716, 779, 802, 825, 848, 881, 924, 957, 1000, 1043, 1096, 1129, 1162, 1195, 1218, 1297, 1350, 1393, 1426, 1449, 1482, 1515, 1558, 1591, 1651, 1721, 1808, 1841, 1874, 1927, 1940, 1953]) (len := 195) (off := 1350) (tgt := 1383) (by decide +kernel) (by rw [c270]; decide) (by rw [c270]; decide) (by rw [c270]; decide) (by decide) ?_
                                                                  refine ev_seg (o := 11) (nL := 4) (q := 1388) (xs := [(.aload_n 1, 1, 1, 0, .null), (.aload_n 0, 1, 0, 0, .null), (.iload_n 3, 1, 3, 0, .null), (.iconst 1, 1, 0, 0, .int 1), (.iadd, 1, 0, 0, .null)]) (L' := [some (.ref 0), some (.ref 2), some (.ref 93), some (.int x3)]) (st' := [.int (x3 + 1), .ref 0, .ref 2]) (w' := w) (g := []) (K := []) (by decide +kernel) rfl rfl rfl rfl jk0 ?_
                                                                  obtain ⟨hg271, h⟩ := jgd h
                                                                  refine ev_sld hLs (by decide +kernel) hg271 ?_
                                                                  refine ev_seg (o := 11) (nL := 4) (q := 1393) (xs := [(.aload_n 0, 1, 0, 0, .null), (.iload_n 3, 1, 3, 0, .null), (.iconst 2, 1, 0, 0, .int 2), (.iadd, 1, 0, 0, .null)]) (L' := [some (.ref 0), some (.ref 2), some (.ref 93), some (.int x3)]) (st' := [.int (x3 + 2), .ref 0, .int (xs (Int32.toNatClampNeg (x3 + 1))), .ref 2]) (w' := w) (g := []) (K := []) (by decide +kernel) rfl rfl rfl rfl jk0 ?_
                                                                  obtain ⟨hg272, h⟩ := jgd h
                                                                  refine ev_sld hLs (by decide +kernel) hg272 ?_
                                                                  refine ev_seg (o := 11) (nL := 4) (q := 1398) (xs := [(.aload_n 0, 1, 0, 0, .null), (.iload_n 3, 1, 3, 0, .null), (.iconst 3, 1, 0, 0, .int 3), (.iadd, 1, 0, 0, .null)]) (L' := [some (.ref 0), some (.ref 2), some (.ref 93), some (.int x3)]) (st' := [.int (x3 + 3), .ref 0, .int (xs (Int32.toNatClampNeg (x3 + 2))), .int (xs (Int32.toNatClampNeg (x3 + 1))), .ref 2]) (w' := w) (g := []) (K := []) (by decide +kernel) rfl rfl rfl rfl jk0 ?_
                                                                  obtain ⟨hg273, h⟩ := jgd h
                                                                  refine ev_sld hLs (by decide +kernel) hg273 ?_
                                                                  obtain ⟨q274, hq274, h⟩ := jbe h
                                                                  refine ev_callV (ci := 9) (a := 2) (y2 := y_Count_doubt) (o := 11) (idx := 138) (d2 := d_Count_doubt) (n := 3) (mc2 := 0) (ms2 := 0) (As := [.int (xs (Int32.toNatClampNeg (x3 + 1))), .int (xs (Int32.toNatClampNeg (x3 + 2))), .int (xs (Int32.toNatClampNeg (x3 + 3)))]) (st := []) (res2 := (some (.int q274.1), jR0, q274.2)) (by decide +kernel) rfl lk_11_138 mo_Count_doubt mv_Count_doubt ⟨Nat.le_of_ble_eq_true rfl, Nat.le_of_ble_eq_true rfl⟩ rfl rfl kz_2 (by decide) rfl (Nat.le_of_ble_eq_true rfl) ⟨Nat.le_of_ble_eq_true rfl, Nat.le_of_ble_eq_true rfl⟩ hG (e_Count_doubt hG hq274) ?_
                                                                  refine ev_seg (o := 11) (nL := 4) (q := 1407) (xs := [(.aload_n 2, 1, 2, 0, .null), (.aload_n 0, 1, 0, 0, .null), (.iload_n 3, 1, 3, 0, .null), (.iconst 1, 1, 0, 0, .int 1), (.iadd, 1, 0, 0, .null)]) (L' := [some (.ref 0), some (.ref 2), some (.ref 93), some (.int x3)]) (st' := [.int (x3 + 1), .ref 0, .ref 93, .int q274.1]) (w' := q274.2) (g := []) (K := []) (by decide +kernel) rfl rfl rfl rfl jk0 ?_
                                                                  obtain ⟨hg275, h⟩ := jgd h
                                                                  refine ev_sld hLs (by decide +kernel) hg275 ?_
                                                                  refine ev_seg (o := 11) (nL := 4) (q := 1412) (xs := [(.aload_n 0, 1, 0, 0, .null), (.iload_n 3, 1, 3, 0, .null), (.iconst 2, 1, 0, 0, .int 2), (.iadd, 1, 0, 0, .null)]) (L' := [some (.ref 0), some (.ref 2), some (.ref 93), some (.int x3)]) (st' := [.int (x3 + 2), .ref 0, .int (xs (Int32.toNatClampNeg (x3 + 1))), .ref 93, .int q274.1]) (w' := q274.2) (g := []) (K := []) (by decide +kernel) rfl rfl rfl rfl jk0 ?_
                                                                  obtain ⟨hg276, h⟩ := jgd h
                                                                  refine ev_sld hLs (by decide +kernel) hg276 ?_
                                                                  refine ev_seg (o := 11) (nL := 4) (q := 1417) (xs := [(.aload_n 0, 1, 0, 0, .null), (.iload_n 3, 1, 3, 0, .null), (.iconst 3, 1, 0, 0, .int 3), (.iadd, 1, 0, 0, .null)]) (L' := [some (.ref 0), some (.ref 2), some (.ref 93), some (.int x3)]) (st' := [.int (x3 + 3), .ref 0, .int (xs (Int32.toNatClampNeg (x3 + 2))), .int (xs (Int32.toNatClampNeg (x3 + 1))), .ref 93, .int q274.1]) (w' := q274.2) (g := []) (K := []) (by decide +kernel) rfl rfl rfl rfl jk0 ?_
                                                                  obtain ⟨hg277, h⟩ := jgd h
                                                                  refine ev_sld hLs (by decide +kernel) hg277 ?_
                                                                  obtain ⟨q278, hq278, h⟩ := jbe h
                                                                  refine ev_callV (ci := 10) (a := 93) (y2 := y_Model_doubt) (o := 11) (idx := 141) (d2 := d_Model_doubt) (n := 3) (mc2 := 0) (ms2 := 0) (As := [.int (xs (Int32.toNatClampNeg (x3 + 1))), .int (xs (Int32.toNatClampNeg (x3 + 2))), .int (xs (Int32.toNatClampNeg (x3 + 3)))]) (st := [.int q274.1]) (res2 := (some (.int q278.1), jR0, q278.2)) (by decide +kernel) rfl lk_11_141 mo_Model_doubt mv_Model_doubt ⟨Nat.le_of_ble_eq_true rfl, Nat.le_of_ble_eq_true rfl⟩ rfl rfl kz_93 (by decide) rfl (Nat.le_of_ble_eq_true rfl) ⟨Nat.le_of_ble_eq_true rfl, Nat.le_of_ble_eq_true rfl⟩ hG (e_Model_doubt hG hq278) ?_
                                                                  refine ev_icmp_eq (off := 588) (tgt := 2009) (by decide +kernel) (by decide) (fun c279 => ?_) (fun c279 => ?_)
                                                                  · replace h := jpos c279 h
                                                                    refine ev_seg (o := 11) (nL := 4) (q := 18) (xs := [(.iinc 3 8, 3, 3, 0, .int 8), (.goto (-1994), 3, 0, 0, .null)]) (L' := [some (.ref 0), some (.ref 2), some (.ref 93), some (.int (x3 + 8))]) (st' := []) (w' := q278.2) (g := []) (K := []) (by decide +kernel) rfl rfl rfl rfl jk0 ?_
                                                                    refine ev_mask [true, true, true, true] ?_
                                                                    exact ih _ _ _ h
                                                                  · replace h := jneg c279 h
                                                                    refine ev_seg (o := 11) (nL := 4) (q := 1425) (xs := [(.iconst 0, 1, 0, 0, .int 0)]) (L' := [some (.ref 0), some (.ref 2), some (.ref 93), some (.int x3)]) (st' := [.int 0]) (w' := q278.2) (g := []) (K := []) (by decide +kernel) rfl rfl rfl rfl jk0 ?_
                                                                    cases h
                                                                    exact ev_zret (by decide +kernel) rfl rfl rfl rfl rfl
                                                                · replace h := jneg c270 h
                                                                  by_cases c280 : ((xs (Int32.toNatClampNeg x3)) &&& 63) = 30
                                                                  · replace h := jpos c280 h
                                                                    refine ev_tableIn (dflt := 1976) (lo := 0) (hi := 44) (offs := #[195, 280, 323, 356, 419, 462, 515, 548, 571, 594, 617, 650, 683, 716, 779, 802, 825, 848, 881, 924, 957, 1000, 1043, 1096, 1129, 1162, 1195, 1218, 1297, 1350, 1393, 1426, 1449, 1482, 1515, 1558, 1591, 1651, 1721, 1808, 1841, 1874, 1927, 1940, 1953]) (len := 195) (off := 1393) (tgt := 1426) (by decide +kernel) (by rw [c280]; decide) (by rw [c280]; decide) (by rw [c280]; decide) (by decide) ?_
                                                                    refine ev_seg (o := 11) (nL := 4) (q := 1431) (xs := [(.aload_n 1, 1, 1, 0, .null), (.aload_n 0, 1, 0, 0, .null), (.iload_n 3, 1, 3, 0, .null), (.iconst 1, 1, 0, 0, .int 1), (.iadd, 1, 0, 0, .null)]) (L' := [some (.ref 0), some (.ref 2), some (.ref 93), some (.int x3)]) (st' := [.int (x3 + 1), .ref 0, .ref 2]) (w' := w) (g := []) (K := []) (by decide +kernel) rfl rfl rfl rfl jk0 ?_
                                                                    obtain ⟨hg281, h⟩ := jgd h
                                                                    refine ev_sld hLs (by decide +kernel) hg281 ?_
                                                                    refine ev_seg (o := 11) (nL := 4) (q := 1436) (xs := [(.aload_n 0, 1, 0, 0, .null), (.iload_n 3, 1, 3, 0, .null), (.iconst 2, 1, 0, 0, .int 2), (.iadd, 1, 0, 0, .null)]) (L' := [some (.ref 0), some (.ref 2), some (.ref 93), some (.int x3)]) (st' := [.int (x3 + 2), .ref 0, .int (xs (Int32.toNatClampNeg (x3 + 1))), .ref 2]) (w' := w) (g := []) (K := []) (by decide +kernel) rfl rfl rfl rfl jk0 ?_
                                                                    obtain ⟨hg282, h⟩ := jgd h
                                                                    refine ev_sld hLs (by decide +kernel) hg282 ?_
                                                                    obtain ⟨q283, hq283, h⟩ := jbe h
                                                                    refine ev_callV (ci := 9) (a := 2) (y2 := y_Count_ask) (o := 11) (idx := 142) (d2 := d_Count_ask) (n := 2) (mc2 := 0) (ms2 := 0) (As := [.int (xs (Int32.toNatClampNeg (x3 + 1))), .int (xs (Int32.toNatClampNeg (x3 + 2)))]) (st := []) (res2 := (some (.int q283.1), jR0, q283.2)) (by decide +kernel) rfl lk_11_142 mo_Count_ask mv_Count_ask ⟨Nat.le_of_ble_eq_true rfl, Nat.le_of_ble_eq_true rfl⟩ rfl rfl kz_2 (by decide) rfl (Nat.le_of_ble_eq_true rfl) ⟨Nat.le_of_ble_eq_true rfl, Nat.le_of_ble_eq_true rfl⟩ hG (e_Count_ask hG hq283) ?_
                                                                    refine ev_seg (o := 11) (nL := 4) (q := 1445) (xs := [(.aload_n 2, 1, 2, 0, .null), (.aload_n 0, 1, 0, 0, .null), (.iload_n 3, 1, 3, 0, .null), (.iconst 1, 1, 0, 0, .int 1), (.iadd, 1, 0, 0, .null)]) (L' := [some (.ref 0), some (.ref 2), some (.ref 93), some (.int x3)]) (st' := [.int (x3 + 1), .ref 0, .ref 93, .int q283.1]) (w' := q283.2) (g := []) (K := []) (by decide +kernel) rfl rfl rfl rfl jk0 ?_
                                                                    obtain ⟨hg284, h⟩ := jgd h
                                                                    refine ev_sld hLs (by decide +kernel) hg284 ?_
                                                                    refine ev_seg (o := 11) (nL := 4) (q := 1450) (xs := [(.aload_n 0, 1, 0, 0, .null), (.iload_n 3, 1, 3, 0, .null), (.iconst 2, 1, 0, 0, .int 2), (.iadd, 1, 0, 0, .null)]) (L' := [some (.ref 0), some (.ref 2), some (.ref 93), some (.int x3)]) (st' := [.int (x3 + 2), .ref 0, .int (xs (Int32.toNatClampNeg (x3 + 1))), .ref 93, .int q283.1]) (w' := q283.2) (g := []) (K := []) (by decide +kernel) rfl rfl rfl rfl jk0 ?_
                                                                    obtain ⟨hg285, h⟩ := jgd h
                                                                    refine ev_sld hLs (by decide +kernel) hg285 ?_
                                                                    obtain ⟨q286, hq286, h⟩ := jbe h
                                                                    refine ev_callV (ci := 10) (a := 93) (y2 := y_Model_ask) (o := 11) (idx := 145) (d2 := d_Model_ask) (n := 2) (mc2 := 0) (ms2 := 0) (As := [.int (xs (Int32.toNatClampNeg (x3 + 1))), .int (xs (Int32.toNatClampNeg (x3 + 2)))]) (st := [.int q283.1]) (res2 := (some (.int q286.1), jR0, q286.2)) (by decide +kernel) rfl lk_11_145 mo_Model_ask mv_Model_ask ⟨Nat.le_of_ble_eq_true rfl, Nat.le_of_ble_eq_true rfl⟩ rfl rfl kz_93 (by decide) rfl (Nat.le_of_ble_eq_true rfl) ⟨Nat.le_of_ble_eq_true rfl, Nat.le_of_ble_eq_true rfl⟩ hG (e_Model_ask hG hq286) ?_
                                                                    refine ev_icmp_eq (off := 555) (tgt := 2009) (by decide +kernel) (by decide) (fun c287 => ?_) (fun c287 => ?_)
                                                                    · replace h := jpos c287 h
                                                                      refine ev_seg (o := 11) (nL := 4) (q := 18) (xs := [(.iinc 3 8, 3, 3, 0, .int 8), (.goto (-1994), 3, 0, 0, .null)]) (L' := [some (.ref 0), some (.ref 2), some (.ref 93), some (.int (x3 + 8))]) (st' := []) (w' := q286.2) (g := []) (K := []) (by decide +kernel) rfl rfl rfl rfl jk0 ?_
                                                                      refine ev_mask [true, true, true, true] ?_
                                                                      exact ih _ _ _ h
                                                                    · replace h := jneg c287 h
                                                                      refine ev_seg (o := 11) (nL := 4) (q := 1458) (xs := [(.iconst 0, 1, 0, 0, .int 0)]) (L' := [some (.ref 0), some (.ref 2), some (.ref 93), some (.int x3)]) (st' := [.int 0]) (w' := q286.2) (g := []) (K := []) (by decide +kernel) rfl rfl rfl rfl jk0 ?_
                                                                      cases h
                                                                      exact ev_zret (by decide +kernel) rfl rfl rfl rfl rfl
                                                                  · replace h := jneg c280 h
                                                                    by_cases c288 : ((xs (Int32.toNatClampNeg x3)) &&& 63) = 31
                                                                    · replace h := jpos c288 h
                                                                      refine ev_tableIn (dflt := 1976) (lo := 0) (hi := 44) (offs := #[195, 280, 323, 356, 419, 462, 515, 548, 571, 594, 617, 650, 683, 716, 779, 802, 825, 848, 881, 924, 957, 1000, 1043, 1096, 1129, 1162, 1195, 1218, 1297, 1350, 1393, 1426, 1449, 1482, 1515, 1558, 1591, 1651, 1721, 1808, 1841, 1874, 1927, 1940, 1953]) (len := 195) (off := 1426) (tgt := 1459) (by decide +kernel) (by rw [c288]; decide) (by rw [c288]; decide) (by rw [c288]; decide) (by decide) ?_
                                                                      refine ev_seg (o := 11) (nL := 4) (q := 1464) (xs := [(.aload_n 1, 1, 1, 0, .null), (.aload_n 0, 1, 0, 0, .null), (.iload_n 3, 1, 3, 0, .null), (.iconst 1, 1, 0, 0, .int 1), (.iadd, 1, 0, 0, .null)]) (L' := [some (.ref 0), some (.ref 2), some (.ref 93), some (.int x3)]) (st' := [.int (x3 + 1), .ref 0, .ref 2]) (w' := w) (g := []) (K := []) (by decide +kernel) rfl rfl rfl rfl jk0 ?_
                                                                      obtain ⟨hg289, h⟩ := jgd h
                                                                      refine ev_sld hLs (by decide +kernel) hg289 ?_
                                                                      obtain ⟨q290, hq290, h⟩ := jbe h
                                                                      refine ev_callV (ci := 9) (a := 2) (y2 := y_Count_answer) (o := 11) (idx := 146) (d2 := d_Count_answer) (n := 1) (mc2 := 0) (ms2 := 0) (As := [.int (xs (Int32.toNatClampNeg (x3 + 1)))]) (st := []) (res2 := (some (.int q290.1), jR0, q290.2)) (by decide +kernel) rfl lk_11_146 mo_Count_answer mv_Count_answer ⟨Nat.le_of_ble_eq_true rfl, Nat.le_of_ble_eq_true rfl⟩ rfl rfl kz_2 (by decide) rfl (Nat.le_of_ble_eq_true rfl) ⟨Nat.le_of_ble_eq_true rfl, Nat.le_of_ble_eq_true rfl⟩ hG (e_Count_answer hG hq290) ?_
                                                                      refine ev_seg (o := 11) (nL := 4) (q := 1473) (xs := [(.aload_n 2, 1, 2, 0, .null), (.aload_n 0, 1, 0, 0, .null), (.iload_n 3, 1, 3, 0, .null), (.iconst 1, 1, 0, 0, .int 1), (.iadd, 1, 0, 0, .null)]) (L' := [some (.ref 0), some (.ref 2), some (.ref 93), some (.int x3)]) (st' := [.int (x3 + 1), .ref 0, .ref 93, .int q290.1]) (w' := q290.2) (g := []) (K := []) (by decide +kernel) rfl rfl rfl rfl jk0 ?_
                                                                      obtain ⟨hg291, h⟩ := jgd h
                                                                      refine ev_sld hLs (by decide +kernel) hg291 ?_
                                                                      obtain ⟨q292, hq292, h⟩ := jbe h
                                                                      refine ev_callV (ci := 10) (a := 93) (y2 := y_Model_answer) (o := 11) (idx := 150) (d2 := d_Model_answer) (n := 1) (mc2 := 0) (ms2 := 0) (As := [.int (xs (Int32.toNatClampNeg (x3 + 1)))]) (st := [.int q290.1]) (res2 := (some (.int q292.1), jR0, q292.2)) (by decide +kernel) rfl lk_11_150 mo_Model_answer mv_Model_answer ⟨Nat.le_of_ble_eq_true rfl, Nat.le_of_ble_eq_true rfl⟩ rfl rfl kz_93 (by decide) rfl (Nat.le_of_ble_eq_true rfl) ⟨Nat.le_of_ble_eq_true rfl, Nat.le_of_ble_eq_true rfl⟩ hG (e_Model_answer hG hq292) ?_
                                                                      refine ev_icmp_eq (off := 532) (tgt := 2009) (by decide +kernel) (by decide) (fun c293 => ?_) (fun c293 => ?_)
                                                                      · replace h := jpos c293 h
                                                                        refine ev_seg (o := 11) (nL := 4) (q := 18) (xs := [(.iinc 3 8, 3, 3, 0, .int 8), (.goto (-1994), 3, 0, 0, .null)]) (L' := [some (.ref 0), some (.ref 2), some (.ref 93), some (.int (x3 + 8))]) (st' := []) (w' := q292.2) (g := []) (K := []) (by decide +kernel) rfl rfl rfl rfl jk0 ?_
                                                                        refine ev_mask [true, true, true, true] ?_
                                                                        exact ih _ _ _ h
                                                                      · replace h := jneg c293 h
                                                                        refine ev_seg (o := 11) (nL := 4) (q := 1481) (xs := [(.iconst 0, 1, 0, 0, .int 0)]) (L' := [some (.ref 0), some (.ref 2), some (.ref 93), some (.int x3)]) (st' := [.int 0]) (w' := q292.2) (g := []) (K := []) (by decide +kernel) rfl rfl rfl rfl jk0 ?_
                                                                        cases h
                                                                        exact ev_zret (by decide +kernel) rfl rfl rfl rfl rfl
                                                                    · replace h := jneg c288 h
                                                                      by_cases c294 : ((xs (Int32.toNatClampNeg x3)) &&& 63) = 32
                                                                      · replace h := jpos c294 h
                                                                        refine ev_tableIn (dflt := 1976) (lo := 0) (hi := 44) (offs := #[195, 280, 323, 356, 419, 462, 515, 548, 571, 594, 617, 650, 683, 716, 779, 802, 825, 848, 881, 924, 957, 1000, 1043, 1096, 1129, 1162, 1195, 1218, 1297, 1350, 1393, 1426, 1449, 1482, 1515, 1558, 1591, 1651, 1721, 1808, 1841, 1874, 1927, 1940, 1953]) (len := 195) (off := 1449) (tgt := 1482) (by decide +kernel) (by rw [c294]; decide) (by rw [c294]; decide) (by rw [c294]; decide) (by decide) ?_
                                                                        refine ev_seg (o := 11) (nL := 4) (q := 1487) (xs := [(.aload_n 1, 1, 1, 0, .null), (.aload_n 0, 1, 0, 0, .null), (.iload_n 3, 1, 3, 0, .null), (.iconst 1, 1, 0, 0, .int 1), (.iadd, 1, 0, 0, .null)]) (L' := [some (.ref 0), some (.ref 2), some (.ref 93), some (.int x3)]) (st' := [.int (x3 + 1), .ref 0, .ref 2]) (w' := w) (g := []) (K := []) (by decide +kernel) rfl rfl rfl rfl jk0 ?_
                                                                        obtain ⟨hg295, h⟩ := jgd h
                                                                        refine ev_sld hLs (by decide +kernel) hg295 ?_
                                                                        refine ev_seg (o := 11) (nL := 4) (q := 1492) (xs := [(.aload_n 0, 1, 0, 0, .null), (.iload_n 3, 1, 3, 0, .null), (.iconst 2, 1, 0, 0, .int 2), (.iadd, 1, 0, 0, .null)]) (L' := [some (.ref 0), some (.ref 2), some (.ref 93), some (.int x3)]) (st' := [.int (x3 + 2), .ref 0, .int (xs (Int32.toNatClampNeg (x3 + 1))), .ref 2]) (w' := w) (g := []) (K := []) (by decide +kernel) rfl rfl rfl rfl jk0 ?_
                                                                        obtain ⟨hg296, h⟩ := jgd h
                                                                        refine ev_sld hLs (by decide +kernel) hg296 ?_
                                                                        obtain ⟨q297, hq297, h⟩ := jbe h
                                                                        refine ev_callV (ci := 9) (a := 2) (y2 := y_Count_act) (o := 11) (idx := 151) (d2 := d_Count_act) (n := 2) (mc2 := 0) (ms2 := 0) (As := [.int (xs (Int32.toNatClampNeg (x3 + 1))), .int (xs (Int32.toNatClampNeg (x3 + 2)))]) (st := []) (res2 := (some (.int q297.1), jR0, q297.2)) (by decide +kernel) rfl lk_11_151 mo_Count_act mv_Count_act ⟨Nat.le_of_ble_eq_true rfl, Nat.le_of_ble_eq_true rfl⟩ rfl rfl kz_2 (by decide) rfl (Nat.le_of_ble_eq_true rfl) ⟨Nat.le_of_ble_eq_true rfl, Nat.le_of_ble_eq_true rfl⟩ hG (e_Count_act hG hq297) ?_
                                                                        refine ev_seg (o := 11) (nL := 4) (q := 1501) (xs := [(.aload_n 2, 1, 2, 0, .null), (.aload_n 0, 1, 0, 0, .null), (.iload_n 3, 1, 3, 0, .null), (.iconst 1, 1, 0, 0, .int 1), (.iadd, 1, 0, 0, .null)]) (L' := [some (.ref 0), some (.ref 2), some (.ref 93), some (.int x3)]) (st' := [.int (x3 + 1), .ref 0, .ref 93, .int q297.1]) (w' := q297.2) (g := []) (K := []) (by decide +kernel) rfl rfl rfl rfl jk0 ?_
                                                                        obtain ⟨hg298, h⟩ := jgd h
                                                                        refine ev_sld hLs (by decide +kernel) hg298 ?_
                                                                        refine ev_seg (o := 11) (nL := 4) (q := 1506) (xs := [(.aload_n 0, 1, 0, 0, .null), (.iload_n 3, 1, 3, 0, .null), (.iconst 2, 1, 0, 0, .int 2), (.iadd, 1, 0, 0, .null)]) (L' := [some (.ref 0), some (.ref 2), some (.ref 93), some (.int x3)]) (st' := [.int (x3 + 2), .ref 0, .int (xs (Int32.toNatClampNeg (x3 + 1))), .ref 93, .int q297.1]) (w' := q297.2) (g := []) (K := []) (by decide +kernel) rfl rfl rfl rfl jk0 ?_
                                                                        obtain ⟨hg299, h⟩ := jgd h
                                                                        refine ev_sld hLs (by decide +kernel) hg299 ?_
                                                                        obtain ⟨q300, hq300, h⟩ := jbe h
                                                                        refine ev_callV (ci := 10) (a := 93) (y2 := y_Model_act) (o := 11) (idx := 154) (d2 := d_Model_act) (n := 2) (mc2 := 0) (ms2 := 0) (As := [.int (xs (Int32.toNatClampNeg (x3 + 1))), .int (xs (Int32.toNatClampNeg (x3 + 2)))]) (st := [.int q297.1]) (res2 := (some (.int q300.1), jR0, q300.2)) (by decide +kernel) rfl lk_11_154 mo_Model_act mv_Model_act ⟨Nat.le_of_ble_eq_true rfl, Nat.le_of_ble_eq_true rfl⟩ rfl rfl kz_93 (by decide) rfl (Nat.le_of_ble_eq_true rfl) ⟨Nat.le_of_ble_eq_true rfl, Nat.le_of_ble_eq_true rfl⟩ hG (e_Model_act hG hq300) ?_
                                                                        refine ev_icmp_eq (off := 499) (tgt := 2009) (by decide +kernel) (by decide) (fun c301 => ?_) (fun c301 => ?_)
                                                                        · replace h := jpos c301 h
                                                                          refine ev_seg (o := 11) (nL := 4) (q := 18) (xs := [(.iinc 3 8, 3, 3, 0, .int 8), (.goto (-1994), 3, 0, 0, .null)]) (L' := [some (.ref 0), some (.ref 2), some (.ref 93), some (.int (x3 + 8))]) (st' := []) (w' := q300.2) (g := []) (K := []) (by decide +kernel) rfl rfl rfl rfl jk0 ?_
                                                                          refine ev_mask [true, true, true, true] ?_
                                                                          exact ih _ _ _ h
                                                                        · replace h := jneg c301 h
                                                                          refine ev_seg (o := 11) (nL := 4) (q := 1514) (xs := [(.iconst 0, 1, 0, 0, .int 0)]) (L' := [some (.ref 0), some (.ref 2), some (.ref 93), some (.int x3)]) (st' := [.int 0]) (w' := q300.2) (g := []) (K := []) (by decide +kernel) rfl rfl rfl rfl jk0 ?_
                                                                          cases h
                                                                          exact ev_zret (by decide +kernel) rfl rfl rfl rfl rfl
                                                                      · replace h := jneg c294 h
                                                                        by_cases c302 : ((xs (Int32.toNatClampNeg x3)) &&& 63) = 33
                                                                        · replace h := jpos c302 h
                                                                          refine ev_tableIn (dflt := 1976) (lo := 0) (hi := 44) (offs := #[195, 280, 323, 356, 419, 462, 515, 548, 571, 594, 617, 650, 683, 716, 779, 802, 825, 848, 881, 924, 957, 1000, 1043, 1096, 1129, 1162, 1195, 1218, 1297, 1350, 1393, 1426, 1449, 1482, 1515, 1558, 1591, 1651, 1721, 1808, 1841, 1874, 1927, 1940, 1953]) (len := 195) (off := 1482) (tgt := 1515) (by decide +kernel) (by rw [c302]; decide) (by rw [c302]; decide) (by rw [c302]; decide) (by decide) ?_
                                                                          refine ev_seg (o := 11) (nL := 4) (q := 1520) (xs := [(.aload_n 1, 1, 1, 0, .null), (.aload_n 0, 1, 0, 0, .null), (.iload_n 3, 1, 3, 0, .null), (.iconst 1, 1, 0, 0, .int 1), (.iadd, 1, 0, 0, .null)]) (L' := [some (.ref 0), some (.ref 2), some (.ref 93), some (.int x3)]) (st' := [.int (x3 + 1), .ref 0, .ref 2]) (w' := w) (g := []) (K := []) (by decide +kernel) rfl rfl rfl rfl jk0 ?_
                                                                          obtain ⟨hg303, h⟩ := jgd h
                                                                          refine ev_sld hLs (by decide +kernel) hg303 ?_
                                                                          refine ev_seg (o := 11) (nL := 4) (q := 1525) (xs := [(.aload_n 0, 1, 0, 0, .null), (.iload_n 3, 1, 3, 0, .null), (.iconst 2, 1, 0, 0, .int 2), (.iadd, 1, 0, 0, .null)]) (L' := [some (.ref 0), some (.ref 2), some (.ref 93), some (.int x3)]) (st' := [.int (x3 + 2), .ref 0, .int (xs (Int32.toNatClampNeg (x3 + 1))), .ref 2]) (w' := w) (g := []) (K := []) (by decide +kernel) rfl rfl rfl rfl jk0 ?_
                                                                          obtain ⟨hg304, h⟩ := jgd h
                                                                          refine ev_sld hLs (by decide +kernel) hg304 ?_
                                                                          obtain ⟨q305, hq305, h⟩ := jbe h
                                                                          refine ev_callV (ci := 9) (a := 2) (y2 := y_Count_judged) (o := 11) (idx := 155) (d2 := d_Count_judged) (n := 2) (mc2 := 0) (ms2 := 0) (As := [.int (xs (Int32.toNatClampNeg (x3 + 1))), .int (xs (Int32.toNatClampNeg (x3 + 2)))]) (st := []) (res2 := (some (.int q305.1), jR0, q305.2)) (by decide +kernel) rfl lk_11_155 mo_Count_judged mv_Count_judged ⟨Nat.le_of_ble_eq_true rfl, Nat.le_of_ble_eq_true rfl⟩ rfl rfl kz_2 (by decide) rfl (Nat.le_of_ble_eq_true rfl) ⟨Nat.le_of_ble_eq_true rfl, Nat.le_of_ble_eq_true rfl⟩ hG (e_Count_judged hG hq305) ?_
                                                                          refine ev_seg (o := 11) (nL := 4) (q := 1534) (xs := [(.aload_n 2, 1, 2, 0, .null), (.aload_n 0, 1, 0, 0, .null), (.iload_n 3, 1, 3, 0, .null), (.iconst 1, 1, 0, 0, .int 1), (.iadd, 1, 0, 0, .null)]) (L' := [some (.ref 0), some (.ref 2), some (.ref 93), some (.int x3)]) (st' := [.int (x3 + 1), .ref 0, .ref 93, .int q305.1]) (w' := q305.2) (g := []) (K := []) (by decide +kernel) rfl rfl rfl rfl jk0 ?_
                                                                          obtain ⟨hg306, h⟩ := jgd h
                                                                          refine ev_sld hLs (by decide +kernel) hg306 ?_
                                                                          refine ev_seg (o := 11) (nL := 4) (q := 1539) (xs := [(.aload_n 0, 1, 0, 0, .null), (.iload_n 3, 1, 3, 0, .null), (.iconst 2, 1, 0, 0, .int 2), (.iadd, 1, 0, 0, .null)]) (L' := [some (.ref 0), some (.ref 2), some (.ref 93), some (.int x3)]) (st' := [.int (x3 + 2), .ref 0, .int (xs (Int32.toNatClampNeg (x3 + 1))), .ref 93, .int q305.1]) (w' := q305.2) (g := []) (K := []) (by decide +kernel) rfl rfl rfl rfl jk0 ?_
                                                                          obtain ⟨hg307, h⟩ := jgd h
                                                                          refine ev_sld hLs (by decide +kernel) hg307 ?_
                                                                          obtain ⟨q308, hq308, h⟩ := jbe h
                                                                          refine ev_callV (ci := 10) (a := 93) (y2 := y_Model_judged) (o := 11) (idx := 158) (d2 := d_Model_judged) (n := 2) (mc2 := 0) (ms2 := 0) (As := [.int (xs (Int32.toNatClampNeg (x3 + 1))), .int (xs (Int32.toNatClampNeg (x3 + 2)))]) (st := [.int q305.1]) (res2 := (some (.int q308.1), jR0, q308.2)) (by decide +kernel) rfl lk_11_158 mo_Model_judged mv_Model_judged ⟨Nat.le_of_ble_eq_true rfl, Nat.le_of_ble_eq_true rfl⟩ rfl rfl kz_93 (by decide) rfl (Nat.le_of_ble_eq_true rfl) ⟨Nat.le_of_ble_eq_true rfl, Nat.le_of_ble_eq_true rfl⟩ hG (e_Model_judged hG hq308) ?_
                                                                          refine ev_icmp_eq (off := 466) (tgt := 2009) (by decide +kernel) (by decide) (fun c309 => ?_) (fun c309 => ?_)
                                                                          · replace h := jpos c309 h
                                                                            refine ev_seg (o := 11) (nL := 4) (q := 18) (xs := [(.iinc 3 8, 3, 3, 0, .int 8), (.goto (-1994), 3, 0, 0, .null)]) (L' := [some (.ref 0), some (.ref 2), some (.ref 93), some (.int (x3 + 8))]) (st' := []) (w' := q308.2) (g := []) (K := []) (by decide +kernel) rfl rfl rfl rfl jk0 ?_
                                                                            refine ev_mask [true, true, true, true] ?_
                                                                            exact ih _ _ _ h
                                                                          · replace h := jneg c309 h
                                                                            refine ev_seg (o := 11) (nL := 4) (q := 1547) (xs := [(.iconst 0, 1, 0, 0, .int 0)]) (L' := [some (.ref 0), some (.ref 2), some (.ref 93), some (.int x3)]) (st' := [.int 0]) (w' := q308.2) (g := []) (K := []) (by decide +kernel) rfl rfl rfl rfl jk0 ?_
                                                                            cases h
                                                                            exact ev_zret (by decide +kernel) rfl rfl rfl rfl rfl
                                                                        · replace h := jneg c302 h
                                                                          by_cases c310 : ((xs (Int32.toNatClampNeg x3)) &&& 63) = 34
                                                                          · replace h := jpos c310 h
                                                                            refine ev_tableIn (dflt := 1976) (lo := 0) (hi := 44) (offs := #[195, 280, 323, 356, 419, 462, 515, 548, 571, 594, 617, 650, 683, 716, 779, 802, 825, 848, 881, 924, 957, 1000, 1043, 1096, 1129, 1162, 1195, 1218, 1297, 1350, 1393, 1426, 1449, 1482, 1515, 1558, 1591, 1651, 1721, 1808, 1841, 1874, 1927, 1940, 1953]) (len := 195) (off := 1515) (tgt := 1548) (by decide +kernel) (by rw [c310]; decide) (by rw [c310]; decide) (by rw [c310]; decide) (by decide) ?_
                                                                            refine ev_seg (o := 11) (nL := 4) (q := 1553) (xs := [(.aload_n 1, 1, 1, 0, .null), (.aload_n 0, 1, 0, 0, .null), (.iload_n 3, 1, 3, 0, .null), (.iconst 1, 1, 0, 0, .int 1), (.iadd, 1, 0, 0, .null)]) (L' := [some (.ref 0), some (.ref 2), some (.ref 93), some (.int x3)]) (st' := [.int (x3 + 1), .ref 0, .ref 2]) (w' := w) (g := []) (K := []) (by decide +kernel) rfl rfl rfl rfl jk0 ?_
                                                                            obtain ⟨hg311, h⟩ := jgd h
                                                                            refine ev_sld hLs (by decide +kernel) hg311 ?_
                                                                            refine ev_seg (o := 11) (nL := 4) (q := 1558) (xs := [(.aload_n 0, 1, 0, 0, .null), (.iload_n 3, 1, 3, 0, .null), (.iconst 2, 1, 0, 0, .int 2), (.iadd, 1, 0, 0, .null)]) (L' := [some (.ref 0), some (.ref 2), some (.ref 93), some (.int x3)]) (st' := [.int (x3 + 2), .ref 0, .int (xs (Int32.toNatClampNeg (x3 + 1))), .ref 2]) (w' := w) (g := []) (K := []) (by decide +kernel) rfl rfl rfl rfl jk0 ?_
                                                                            obtain ⟨hg312, h⟩ := jgd h
                                                                            refine ev_sld hLs (by decide +kernel) hg312 ?_
                                                                            refine ev_seg (o := 11) (nL := 4) (q := 1563) (xs := [(.aload_n 0, 1, 0, 0, .null), (.iload_n 3, 1, 3, 0, .null), (.iconst 3, 1, 0, 0, .int 3), (.iadd, 1, 0, 0, .null)]) (L' := [some (.ref 0), some (.ref 2), some (.ref 93), some (.int x3)]) (st' := [.int (x3 + 3), .ref 0, .int (xs (Int32.toNatClampNeg (x3 + 2))), .int (xs (Int32.toNatClampNeg (x3 + 1))), .ref 2]) (w' := w) (g := []) (K := []) (by decide +kernel) rfl rfl rfl rfl jk0 ?_
                                                                            obtain ⟨hg313, h⟩ := jgd h
                                                                            refine ev_sld hLs (by decide +kernel) hg313 ?_
                                                                            obtain ⟨q314, hq314, h⟩ := jbe h
                                                                            refine ev_callV (ci := 9) (a := 2) (y2 := y_Count_fails) (o := 11) (idx := 159) (d2 := d_Count_fails) (n := 3) (mc2 := 0) (ms2 := 0) (As := [.int (xs (Int32.toNatClampNeg (x3 + 1))), .int (xs (Int32.toNatClampNeg (x3 + 2))), .int (xs (Int32.toNatClampNeg (x3 + 3)))]) (st := []) (res2 := (some (.int q314.1), jR0, q314.2)) (by decide +kernel) rfl lk_11_159 mo_Count_fails mv_Count_fails ⟨Nat.le_of_ble_eq_true rfl, Nat.le_of_ble_eq_true rfl⟩ rfl rfl kz_2 (by decide) rfl (Nat.le_of_ble_eq_true rfl) ⟨Nat.le_of_ble_eq_true rfl, Nat.le_of_ble_eq_true rfl⟩ hG (e_Count_fails hG hq314) ?_
                                                                            refine ev_seg (o := 11) (nL := 4) (q := 1572) (xs := [(.aload_n 2, 1, 2, 0, .null), (.aload_n 0, 1, 0, 0, .null), (.iload_n 3, 1, 3, 0, .null), (.iconst 1, 1, 0, 0, .int 1), (.iadd, 1, 0, 0, .null)]) (L' := [some (.ref 0), some (.ref 2), some (.ref 93), some (.int x3)]) (st' := [.int (x3 + 1), .ref 0, .ref 93, .int q314.1]) (w' := q314.2) (g := []) (K := []) (by decide +kernel) rfl rfl rfl rfl jk0 ?_
                                                                            obtain ⟨hg315, h⟩ := jgd h
                                                                            refine ev_sld hLs (by decide +kernel) hg315 ?_
                                                                            refine ev_seg (o := 11) (nL := 4) (q := 1577) (xs := [(.aload_n 0, 1, 0, 0, .null), (.iload_n 3, 1, 3, 0, .null), (.iconst 2, 1, 0, 0, .int 2), (.iadd, 1, 0, 0, .null)]) (L' := [some (.ref 0), some (.ref 2), some (.ref 93), some (.int x3)]) (st' := [.int (x3 + 2), .ref 0, .int (xs (Int32.toNatClampNeg (x3 + 1))), .ref 93, .int q314.1]) (w' := q314.2) (g := []) (K := []) (by decide +kernel) rfl rfl rfl rfl jk0 ?_
                                                                            obtain ⟨hg316, h⟩ := jgd h
                                                                            refine ev_sld hLs (by decide +kernel) hg316 ?_
                                                                            refine ev_seg (o := 11) (nL := 4) (q := 1582) (xs := [(.aload_n 0, 1, 0, 0, .null), (.iload_n 3, 1, 3, 0, .null), (.iconst 3, 1, 0, 0, .int 3), (.iadd, 1, 0, 0, .null)]) (L' := [some (.ref 0), some (.ref 2), some (.ref 93), some (.int x3)]) (st' := [.int (x3 + 3), .ref 0, .int (xs (Int32.toNatClampNeg (x3 + 2))), .int (xs (Int32.toNatClampNeg (x3 + 1))), .ref 93, .int q314.1]) (w' := q314.2) (g := []) (K := []) (by decide +kernel) rfl rfl rfl rfl jk0 ?_
                                                                            obtain ⟨hg317, h⟩ := jgd h
                                                                            refine ev_sld hLs (by decide +kernel) hg317 ?_
                                                                            obtain ⟨q318, hq318, h⟩ := jbe h
                                                                            refine ev_callV (ci := 10) (a := 93) (y2 := y_Model_fails) (o := 11) (idx := 162) (d2 := d_Model_fails) (n := 3) (mc2 := 0) (ms2 := 0) (As := [.int (xs (Int32.toNatClampNeg (x3 + 1))), .int (xs (Int32.toNatClampNeg (x3 + 2))), .int (xs (Int32.toNatClampNeg (x3 + 3)))]) (st := [.int q314.1]) (res2 := (some (.int q318.1), jR0, q318.2)) (by decide +kernel) rfl lk_11_162 mo_Model_fails mv_Model_fails ⟨Nat.le_of_ble_eq_true rfl, Nat.le_of_ble_eq_true rfl⟩ rfl rfl kz_93 (by decide) rfl (Nat.le_of_ble_eq_true rfl) ⟨Nat.le_of_ble_eq_true rfl, Nat.le_of_ble_eq_true rfl⟩ hG (e_Model_fails hG hq318) ?_
                                                                            refine ev_icmp_eq (off := 423) (tgt := 2009) (by decide +kernel) (by decide) (fun c319 => ?_) (fun c319 => ?_)
                                                                            · replace h := jpos c319 h
                                                                              refine ev_seg (o := 11) (nL := 4) (q := 18) (xs := [(.iinc 3 8, 3, 3, 0, .int 8), (.goto (-1994), 3, 0, 0, .null)]) (L' := [some (.ref 0), some (.ref 2), some (.ref 93), some (.int (x3 + 8))]) (st' := []) (w' := q318.2) (g := []) (K := []) (by decide +kernel) rfl rfl rfl rfl jk0 ?_
                                                                              refine ev_mask [true, true, true, true] ?_
                                                                              exact ih _ _ _ h
                                                                            · replace h := jneg c319 h
                                                                              refine ev_seg (o := 11) (nL := 4) (q := 1590) (xs := [(.iconst 0, 1, 0, 0, .int 0)]) (L' := [some (.ref 0), some (.ref 2), some (.ref 93), some (.int x3)]) (st' := [.int 0]) (w' := q318.2) (g := []) (K := []) (by decide +kernel) rfl rfl rfl rfl jk0 ?_
                                                                              cases h
                                                                              exact ev_zret (by decide +kernel) rfl rfl rfl rfl rfl
                                                                          · replace h := jneg c310 h
                                                                            by_cases c320 : ((xs (Int32.toNatClampNeg x3)) &&& 63) = 35
                                                                            · replace h := jpos c320 h
                                                                              refine ev_tableIn (dflt := 1976) (lo := 0) (hi := 44) (offs := #[195, 280, 323, 356, 419, 462, 515, 548, 571, 594, 617, 650, 683, 716, 779, 802, 825, 848, 881, 924, 957, 1000, 1043, 1096, 1129, 1162, 1195, 1218, 1297, 1350, 1393, 1426, 1449, 1482, 1515, 1558, 1591, 1651, 1721, 1808, 1841, 1874, 1927, 1940, 1953]) (len := 195) (off := 1558) (tgt := 1591) (by decide +kernel) (by rw [c320]; decide) (by rw [c320]; decide) (by rw [c320]; decide) (by decide) ?_
                                                                              refine ev_seg (o := 11) (nL := 4) (q := 1596) (xs := [(.aload_n 1, 1, 1, 0, .null), (.aload_n 0, 1, 0, 0, .null), (.iload_n 3, 1, 3, 0, .null), (.iconst 1, 1, 0, 0, .int 1), (.iadd, 1, 0, 0, .null)]) (L' := [some (.ref 0), some (.ref 2), some (.ref 93), some (.int x3)]) (st' := [.int (x3 + 1), .ref 0, .ref 2]) (w' := w) (g := []) (K := []) (by decide +kernel) rfl rfl rfl rfl jk0 ?_
                                                                              obtain ⟨hg321, h⟩ := jgd h
                                                                              refine ev_sld hLs (by decide +kernel) hg321 ?_
                                                                              refine ev_seg (o := 11) (nL := 4) (q := 1601) (xs := [(.aload_n 0, 1, 0, 0, .null), (.iload_n 3, 1, 3, 0, .null), (.iconst 2, 1, 0, 0, .int 2), (.iadd, 1, 0, 0, .null)]) (L' := [some (.ref 0), some (.ref 2), some (.ref 93), some (.int x3)]) (st' := [.int (x3 + 2), .ref 0, .int (xs (Int32.toNatClampNeg (x3 + 1))), .ref 2]) (w' := w) (g := []) (K := []) (by decide +kernel) rfl rfl rfl rfl jk0 ?_
                                                                              obtain ⟨hg322, h⟩ := jgd h
                                                                              refine ev_sld hLs (by decide +kernel) hg322 ?_
                                                                              obtain ⟨q323, hq323, h⟩ := jbe h
                                                                              refine ev_callV (ci := 9) (a := 2) (y2 := y_Count_chance) (o := 11) (idx := 163) (d2 := d_Count_chance) (n := 2) (mc2 := 0) (ms2 := 0) (As := [.int (xs (Int32.toNatClampNeg (x3 + 1))), .int (xs (Int32.toNatClampNeg (x3 + 2)))]) (st := []) (res2 := (some (.int q323.1), jR0, q323.2)) (by decide +kernel) rfl lk_11_163 mo_Count_chance mv_Count_chance ⟨Nat.le_of_ble_eq_true rfl, Nat.le_of_ble_eq_true rfl⟩ rfl rfl kz_2 (by decide) rfl (Nat.le_of_ble_eq_true rfl) ⟨Nat.le_of_ble_eq_true rfl, Nat.le_of_ble_eq_true rfl⟩ hG (e_Count_chance hG hq323) ?_
                                                                              refine ev_seg (o := 11) (nL := 4) (q := 1610) (xs := [(.aload_n 2, 1, 2, 0, .null), (.aload_n 0, 1, 0, 0, .null), (.iload_n 3, 1, 3, 0, .null), (.iconst 1, 1, 0, 0, .int 1), (.iadd, 1, 0, 0, .null)]) (L' := [some (.ref 0), some (.ref 2), some (.ref 93), some (.int x3)]) (st' := [.int (x3 + 1), .ref 0, .ref 93, .int q323.1]) (w' := q323.2) (g := []) (K := []) (by decide +kernel) rfl rfl rfl rfl jk0 ?_
                                                                              obtain ⟨hg324, h⟩ := jgd h
                                                                              refine ev_sld hLs (by decide +kernel) hg324 ?_
                                                                              refine ev_seg (o := 11) (nL := 4) (q := 1615) (xs := [(.aload_n 0, 1, 0, 0, .null), (.iload_n 3, 1, 3, 0, .null), (.iconst 2, 1, 0, 0, .int 2), (.iadd, 1, 0, 0, .null)]) (L' := [some (.ref 0), some (.ref 2), some (.ref 93), some (.int x3)]) (st' := [.int (x3 + 2), .ref 0, .int (xs (Int32.toNatClampNeg (x3 + 1))), .ref 93, .int q323.1]) (w' := q323.2) (g := []) (K := []) (by decide +kernel) rfl rfl rfl rfl jk0 ?_
                                                                              obtain ⟨hg325, h⟩ := jgd h
                                                                              refine ev_sld hLs (by decide +kernel) hg325 ?_
                                                                              obtain ⟨q326, hq326, h⟩ := jbe h
                                                                              refine ev_callV (ci := 10) (a := 93) (y2 := y_Model_chance) (o := 11) (idx := 167) (d2 := d_Model_chance) (n := 2) (mc2 := 0) (ms2 := 0) (As := [.int (xs (Int32.toNatClampNeg (x3 + 1))), .int (xs (Int32.toNatClampNeg (x3 + 2)))]) (st := [.int q323.1]) (res2 := (some (.int q326.1), jR0, q326.2)) (by decide +kernel) rfl lk_11_167 mo_Model_chance mv_Model_chance ⟨Nat.le_of_ble_eq_true rfl, Nat.le_of_ble_eq_true rfl⟩ rfl rfl kz_93 (by decide) rfl (Nat.le_of_ble_eq_true rfl) ⟨Nat.le_of_ble_eq_true rfl, Nat.le_of_ble_eq_true rfl⟩ hG (e_Model_chance hG hq326) ?_
                                                                              refine ev_icmp_eq (off := 390) (tgt := 2009) (by decide +kernel) (by decide) (fun c327 => ?_) (fun c327 => ?_)
                                                                              · replace h := jpos c327 h
                                                                                refine ev_seg (o := 11) (nL := 4) (q := 18) (xs := [(.iinc 3 8, 3, 3, 0, .int 8), (.goto (-1994), 3, 0, 0, .null)]) (L' := [some (.ref 0), some (.ref 2), some (.ref 93), some (.int (x3 + 8))]) (st' := []) (w' := q326.2) (g := []) (K := []) (by decide +kernel) rfl rfl rfl rfl jk0 ?_
                                                                                refine ev_mask [true, true, true, true] ?_
                                                                                exact ih _ _ _ h
                                                                              · replace h := jneg c327 h
                                                                                refine ev_seg (o := 11) (nL := 4) (q := 1623) (xs := [(.iconst 0, 1, 0, 0, .int 0)]) (L' := [some (.ref 0), some (.ref 2), some (.ref 93), some (.int x3)]) (st' := [.int 0]) (w' := q326.2) (g := []) (K := []) (by decide +kernel) rfl rfl rfl rfl jk0 ?_
                                                                                cases h
                                                                                exact ev_zret (by decide +kernel) rfl rfl rfl rfl rfl
                                                                            · replace h := jneg c320 h
                                                                              by_cases c328 : ((xs (Int32.toNatClampNeg x3)) &&& 63) = 36
                                                                              · replace h := jpos c328 h
                                                                                refine ev_tableIn (dflt := 1976) (lo := 0) (hi := 44) (offs := #[195, 280, 323, 356, 419, 462, 515, 548, 571, 594, 617, 650, 683, 716, 779, 802, 825, 848, 881, 924, 957, 1000, 1043, 1096, 1129, 1162, 1195, 1218, 1297, 1350, 1393, 1426, 1449, 1482, 1515, 1558, 1591, 1651, 1721, 1808, 1841, 1874, 1927, 1940, 1953]) (len := 195) (off := 1591) (tgt := 1624) (by decide +kernel) (by rw [c328]; decide) (by rw [c328]; decide) (by rw [c328]; decide) (by decide) ?_
                                                                                refine ev_seg (o := 11) (nL := 4) (q := 1629) (xs := [(.aload_n 1, 1, 1, 0, .null), (.aload_n 0, 1, 0, 0, .null), (.iload_n 3, 1, 3, 0, .null), (.iconst 1, 1, 0, 0, .int 1), (.iadd, 1, 0, 0, .null)]) (L' := [some (.ref 0), some (.ref 2), some (.ref 93), some (.int x3)]) (st' := [.int (x3 + 1), .ref 0, .ref 2]) (w' := w) (g := []) (K := []) (by decide +kernel) rfl rfl rfl rfl jk0 ?_
                                                                                obtain ⟨hg329, h⟩ := jgd h
                                                                                refine ev_sld hLs (by decide +kernel) hg329 ?_
                                                                                refine ev_seg (o := 11) (nL := 4) (q := 1634) (xs := [(.aload_n 0, 1, 0, 0, .null), (.iload_n 3, 1, 3, 0, .null), (.iconst 2, 1, 0, 0, .int 2), (.iadd, 1, 0, 0, .null)]) (L' := [some (.ref 0), some (.ref 2), some (.ref 93), some (.int x3)]) (st' := [.int (x3 + 2), .ref 0, .int (xs (Int32.toNatClampNeg (x3 + 1))), .ref 2]) (w' := w) (g := []) (K := []) (by decide +kernel) rfl rfl rfl rfl jk0 ?_
                                                                                obtain ⟨hg330, h⟩ := jgd h
                                                                                refine ev_sld hLs (by decide +kernel) hg330 ?_
                                                                                refine ev_seg (o := 11) (nL := 4) (q := 1639) (xs := [(.aload_n 0, 1, 0, 0, .null), (.iload_n 3, 1, 3, 0, .null), (.iconst 3, 1, 0, 0, .int 3), (.iadd, 1, 0, 0, .null)]) (L' := [some (.ref 0), some (.ref 2), some (.ref 93), some (.int x3)]) (st' := [.int (x3 + 3), .ref 0, .int (xs (Int32.toNatClampNeg (x3 + 2))), .int (xs (Int32.toNatClampNeg (x3 + 1))), .ref 2]) (w' := w) (g := []) (K := []) (by decide +kernel) rfl rfl rfl rfl jk0 ?_
                                                                                obtain ⟨hg331, h⟩ := jgd h
                                                                                refine ev_sld hLs (by decide +kernel) hg331 ?_
                                                                                refine ev_if_eq (off := 7) (tgt := 1647) (by decide +kernel) (by decide) (fun c339 => ?_) (fun c339 => ?_)
                                                                                · replace h := jpos c339 h
                                                                                  refine ev_seg (o := 11) (nL := 4) (q := 1648) (xs := [(.iconst 0, 1, 0, 0, .int 0)]) (L' := [some (.ref 0), some (.ref 2), some (.ref 93), some (.int x3)]) (st' := [.int 0, .int (xs (Int32.toNatClampNeg (x3 + 2))), .int (xs (Int32.toNatClampNeg (x3 + 1))), .ref 2]) (w' := w) (g := []) (K := []) (by decide +kernel) rfl rfl rfl rfl jk0 ?_
                                                                                  refine ev_mask [true, true, true, true] ?_
                                                                                  exact t_Law_law_j1648 hG hxs hLs ih h
                                                                                · replace h := jneg c339 h
                                                                                  refine ev_seg (o := 11) (nL := 4) (q := 1648) (xs := [(.iconst 1, 1, 0, 0, .int 1), (.goto 4, 3, 0, 0, .null)]) (L' := [some (.ref 0), some (.ref 2), some (.ref 93), some (.int x3)]) (st' := [.int 1, .int (xs (Int32.toNatClampNeg (x3 + 2))), .int (xs (Int32.toNatClampNeg (x3 + 1))), .ref 2]) (w' := w) (g := []) (K := []) (by decide +kernel) rfl rfl rfl rfl jk0 ?_
                                                                                  refine ev_mask [true, true, true, true] ?_
                                                                                  exact t_Law_law_j1648 hG hxs hLs ih h
                                                                              · replace h := jneg c328 h
                                                                                by_cases c340 : ((xs (Int32.toNatClampNeg x3)) &&& 63) = 37
                                                                                · replace h := jpos c340 h
                                                                                  refine ev_tableIn (dflt := 1976) (lo := 0) (hi := 44) (offs := #[195, 280, 323, 356, 419, 462, 515, 548, 571, 594, 617, 650, 683, 716, 779, 802, 825, 848, 881, 924, 957, 1000, 1043, 1096, 1129, 1162, 1195, 1218, 1297, 1350, 1393, 1426, 1449, 1482, 1515, 1558, 1591, 1651, 1721, 1808, 1841, 1874, 1927, 1940, 1953]) (len := 195) (off := 1651) (tgt := 1684) (by decide +kernel) (by rw [c340]; decide) (by rw [c340]; decide) (by rw [c340]; decide) (by decide) ?_
                                                                                  refine ev_seg (o := 11) (nL := 4) (q := 1689) (xs := [(.aload_n 1, 1, 1, 0, .null), (.aload_n 0, 1, 0, 0, .null), (.iload_n 3, 1, 3, 0, .null), (.iconst 1, 1, 0, 0, .int 1), (.iadd, 1, 0, 0, .null)]) (L' := [some (.ref 0), some (.ref 2), some (.ref 93), some (.int x3)]) (st' := [.int (x3 + 1), .ref 0, .ref 2]) (w' := w) (g := []) (K := []) (by decide +kernel) rfl rfl rfl rfl jk0 ?_
                                                                                  obtain ⟨hg341, h⟩ := jgd h
                                                                                  refine ev_sld hLs (by decide +kernel) hg341 ?_
                                                                                  refine ev_seg (o := 11) (nL := 4) (q := 1694) (xs := [(.aload_n 0, 1, 0, 0, .null), (.iload_n 3, 1, 3, 0, .null), (.iconst 2, 1, 0, 0, .int 2), (.iadd, 1, 0, 0, .null)]) (L' := [some (.ref 0), some (.ref 2), some (.ref 93), some (.int x3)]) (st' := [.int (x3 + 2), .ref 0, .int (xs (Int32.toNatClampNeg (x3 + 1))), .ref 2]) (w' := w) (g := []) (K := []) (by decide +kernel) rfl rfl rfl rfl jk0 ?_
                                                                                  obtain ⟨hg342, h⟩ := jgd h
                                                                                  refine ev_sld hLs (by decide +kernel) hg342 ?_
                                                                                  refine ev_seg (o := 11) (nL := 4) (q := 1699) (xs := [(.aload_n 0, 1, 0, 0, .null), (.iload_n 3, 1, 3, 0, .null), (.iconst 3, 1, 0, 0, .int 3), (.iadd, 1, 0, 0, .null)]) (L' := [some (.ref 0), some (.ref 2), some (.ref 93), some (.int x3)]) (st' := [.int (x3 + 3), .ref 0, .int (xs (Int32.toNatClampNeg (x3 + 2))), .int (xs (Int32.toNatClampNeg (x3 + 1))), .ref 2]) (w' := w) (g := []) (K := []) (by decide +kernel) rfl rfl rfl rfl jk0 ?_
                                                                                  obtain ⟨hg343, h⟩ := jgd h
                                                                                  refine ev_sld hLs (by decide +kernel) hg343 ?_
                                                                                  refine ev_seg (o := 11) (nL := 4) (q := 1704) (xs := [(.aload_n 0, 1, 0, 0, .null), (.iload_n 3, 1, 3, 0, .null), (.iconst 4, 1, 0, 0, .int 4), (.iadd, 1, 0, 0, .null)]) (L' := [some (.ref 0), some (.ref 2), some (.ref 93), some (.int x3)]) (st' := [.int (x3 + 4), .ref 0, .int (xs (Int32.toNatClampNeg (x3 + 3))), .int (xs (Int32.toNatClampNeg (x3 + 2))), .int (xs (Int32.toNatClampNeg (x3 + 1))), .ref 2]) (w' := w) (g := []) (K := []) (by decide +kernel) rfl rfl rfl rfl jk0 ?_
                                                                                  obtain ⟨hg344, h⟩ := jgd h
                                                                                  refine ev_sld hLs (by decide +kernel) hg344 ?_
                                                                                  refine ev_if_eq (off := 7) (tgt := 1712) (by decide +kernel) (by decide) (fun c353 => ?_) (fun c353 => ?_)
                                                                                  · replace h := jpos c353 h
                                                                                    refine ev_seg (o := 11) (nL := 4) (q := 1713) (xs := [(.iconst 0, 1, 0, 0, .int 0)]) (L' := [some (.ref 0), some (.ref 2), some (.ref 93), some (.int x3)]) (st' := [.int 0, .int (xs (Int32.toNatClampNeg (x3 + 3))), .int (xs (Int32.toNatClampNeg (x3 + 2))), .int (xs (Int32.toNatClampNeg (x3 + 1))), .ref 2]) (w' := w) (g := []) (K := []) (by decide +kernel) rfl rfl rfl rfl jk0 ?_
                                                                                    refine ev_mask [true, true, true, true] ?_
                                                                                    exact t_Law_law_j1713 hG hxs hLs ih h
                                                                                  · replace h := jneg c353 h
                                                                                    refine ev_seg (o := 11) (nL := 4) (q := 1713) (xs := [(.iconst 1, 1, 0, 0, .int 1), (.goto 4, 3, 0, 0, .null)]) (L' := [some (.ref 0), some (.ref 2), some (.ref 93), some (.int x3)]) (st' := [.int 1, .int (xs (Int32.toNatClampNeg (x3 + 3))), .int (xs (Int32.toNatClampNeg (x3 + 2))), .int (xs (Int32.toNatClampNeg (x3 + 1))), .ref 2]) (w' := w) (g := []) (K := []) (by decide +kernel) rfl rfl rfl rfl jk0 ?_
                                                                                    refine ev_mask [true, true, true, true] ?_
                                                                                    exact t_Law_law_j1713 hG hxs hLs ih h
                                                                                · replace h := jneg c340 h
                                                                                  by_cases c354 : ((xs (Int32.toNatClampNeg x3)) &&& 63) = 38
                                                                                  · replace h := jpos c354 h
                                                                                    refine ev_tableIn (dflt := 1976) (lo := 0) (hi := 44) (offs := #[195, 280, 323, 356, 419, 462, 515, 548, 571, 594, 617, 650, 683, 716, 779, 802, 825, 848, 881, 924, 957, 1000, 1043, 1096, 1129, 1162, 1195, 1218, 1297, 1350, 1393, 1426, 1449, 1482, 1515, 1558, 1591, 1651, 1721, 1808, 1841, 1874, 1927, 1940, 1953]) (len := 195) (off := 1721) (tgt := 1754) (by decide +kernel) (by rw [c354]; decide) (by rw [c354]; decide) (by rw [c354]; decide) (by decide) ?_
                                                                                    refine ev_seg (o := 11) (nL := 4) (q := 1759) (xs := [(.aload_n 1, 1, 1, 0, .null), (.aload_n 0, 1, 0, 0, .null), (.iload_n 3, 1, 3, 0, .null), (.iconst 1, 1, 0, 0, .int 1), (.iadd, 1, 0, 0, .null)]) (L' := [some (.ref 0), some (.ref 2), some (.ref 93), some (.int x3)]) (st' := [.int (x3 + 1), .ref 0, .ref 2]) (w' := w) (g := []) (K := []) (by decide +kernel) rfl rfl rfl rfl jk0 ?_
                                                                                    obtain ⟨hg355, h⟩ := jgd h
                                                                                    refine ev_sld hLs (by decide +kernel) hg355 ?_
                                                                                    refine ev_seg (o := 11) (nL := 4) (q := 1764) (xs := [(.aload_n 0, 1, 0, 0, .null), (.iload_n 3, 1, 3, 0, .null), (.iconst 2, 1, 0, 0, .int 2), (.iadd, 1, 0, 0, .null)]) (L' := [some (.ref 0), some (.ref 2), some (.ref 93), some (.int x3)]) (st' := [.int (x3 + 2), .ref 0, .int (xs (Int32.toNatClampNeg (x3 + 1))), .ref 2]) (w' := w) (g := []) (K := []) (by decide +kernel) rfl rfl rfl rfl jk0 ?_
                                                                                    obtain ⟨hg356, h⟩ := jgd h
                                                                                    refine ev_sld hLs (by decide +kernel) hg356 ?_
                                                                                    refine ev_seg (o := 11) (nL := 4) (q := 1769) (xs := [(.aload_n 0, 1, 0, 0, .null), (.iload_n 3, 1, 3, 0, .null), (.iconst 3, 1, 0, 0, .int 3), (.iadd, 1, 0, 0, .null)]) (L' := [some (.ref 0), some (.ref 2), some (.ref 93), some (.int x3)]) (st' := [.int (x3 + 3), .ref 0, .int (xs (Int32.toNatClampNeg (x3 + 2))), .int (xs (Int32.toNatClampNeg (x3 + 1))), .ref 2]) (w' := w) (g := []) (K := []) (by decide +kernel) rfl rfl rfl rfl jk0 ?_
                                                                                    obtain ⟨hg357, h⟩ := jgd h
                                                                                    refine ev_sld hLs (by decide +kernel) hg357 ?_
                                                                                    refine ev_seg (o := 11) (nL := 4) (q := 1774) (xs := [(.aload_n 0, 1, 0, 0, .null), (.iload_n 3, 1, 3, 0, .null), (.iconst 4, 1, 0, 0, .int 4), (.iadd, 1, 0, 0, .null)]) (L' := [some (.ref 0), some (.ref 2), some (.ref 93), some (.int x3)]) (st' := [.int (x3 + 4), .ref 0, .int (xs (Int32.toNatClampNeg (x3 + 3))), .int (xs (Int32.toNatClampNeg (x3 + 2))), .int (xs (Int32.toNatClampNeg (x3 + 1))), .ref 2]) (w' := w) (g := []) (K := []) (by decide +kernel) rfl rfl rfl rfl jk0 ?_
                                                                                    obtain ⟨hg358, h⟩ := jgd h
                                                                                    refine ev_sld hLs (by decide +kernel) hg358 ?_
                                                                                    refine ev_seg (o := 11) (nL := 4) (q := 1779) (xs := [(.aload_n 0, 1, 0, 0, .null), (.iload_n 3, 1, 3, 0, .null), (.iconst 5, 1, 0, 0, .int 5), (.iadd, 1, 0, 0, .null)]) (L' := [some (.ref 0), some (.ref 2), some (.ref 93), some (.int x3)]) (st' := [.int (x3 + 5), .ref 0, .int (xs (Int32.toNatClampNeg (x3 + 4))), .int (xs (Int32.toNatClampNeg (x3 + 3))), .int (xs (Int32.toNatClampNeg (x3 + 2))), .int (xs (Int32.toNatClampNeg (x3 + 1))), .ref 2]) (w' := w) (g := []) (K := []) (by decide +kernel) rfl rfl rfl rfl jk0 ?_
                                                                                    obtain ⟨hg359, h⟩ := jgd h
                                                                                    refine ev_sld hLs (by decide +kernel) hg359 ?_
                                                                                    refine ev_seg (o := 11) (nL := 4) (q := 1785) (xs := [(.aload_n 0, 1, 0, 0, .null), (.iload_n 3, 1, 3, 0, .null), (.bipush 6, 2, 0, 0, .int 6), (.iadd, 1, 0, 0, .null)]) (L' := [some (.ref 0), some (.ref 2), some (.ref 93), some (.int x3)]) (st' := [.int (x3 + 6), .ref 0, .int (xs (Int32.toNatClampNeg (x3 + 5))), .int (xs (Int32.toNatClampNeg (x3 + 4))), .int (xs (Int32.toNatClampNeg (x3 + 3))), .int (xs (Int32.toNatClampNeg (x3 + 2))), .int (xs (Int32.toNatClampNeg (x3 + 1))), .ref 2]) (w' := w) (g := []) (K := []) (by decide +kernel) rfl rfl rfl rfl jk0 ?_
                                                                                    obtain ⟨hg360, h⟩ := jgd h
                                                                                    refine ev_sld hLs (by decide +kernel) hg360 ?_
                                                                                    refine ev_seg (o := 11) (nL := 4) (q := 1791) (xs := [(.aload_n 0, 1, 0, 0, .null), (.iload_n 3, 1, 3, 0, .null), (.bipush 7, 2, 0, 0, .int 7), (.iadd, 1, 0, 0, .null)]) (L' := [some (.ref 0), some (.ref 2), some (.ref 93), some (.int x3)]) (st' := [.int (x3 + 7), .ref 0, .int (xs (Int32.toNatClampNeg (x3 + 6))), .int (xs (Int32.toNatClampNeg (x3 + 5))), .int (xs (Int32.toNatClampNeg (x3 + 4))), .int (xs (Int32.toNatClampNeg (x3 + 3))), .int (xs (Int32.toNatClampNeg (x3 + 2))), .int (xs (Int32.toNatClampNeg (x3 + 1))), .ref 2]) (w' := w) (g := []) (K := []) (by decide +kernel) rfl rfl rfl rfl jk0 ?_
                                                                                    obtain ⟨hg361, h⟩ := jgd h
                                                                                    refine ev_sld hLs (by decide +kernel) hg361 ?_
                                                                                    obtain ⟨q362, hq362, h⟩ := jbe h
                                                                                    refine ev_callV (ci := 9) (a := 2) (y2 := y_Count_proof) (o := 11) (idx := 178) (d2 := d_Count_proof) (n := 7) (mc2 := 0) (ms2 := 0) (As := [.int (xs (Int32.toNatClampNeg (x3 + 1))), .int (xs (Int32.toNatClampNeg (x3 + 2))), .int (xs (Int32.toNatClampNeg (x3 + 3))), .int (xs (Int32.toNatClampNeg (x3 + 4))), .int (xs (Int32.toNatClampNeg (x3 + 5))), .int (xs (Int32.toNatClampNeg (x3 + 6))), .int (xs (Int32.toNatClampNeg (x3 + 7)))]) (st := []) (res2 := (some (.int q362.1), jR0, q362.2)) (by decide +kernel) rfl lk_11_178 mo_Count_proof mv_Count_proof ⟨Nat.le_of_ble_eq_true rfl, Nat.le_of_ble_eq_true rfl⟩ rfl rfl kz_2 (by decide) rfl (Nat.le_of_ble_eq_true rfl) ⟨Nat.le_of_ble_eq_true rfl, Nat.le_of_ble_eq_true rfl⟩ hG (e_Count_proof hG hq362) ?_
                                                                                    refine ev_seg (o := 11) (nL := 4) (q := 1800) (xs := [(.aload_n 2, 1, 2, 0, .null), (.aload_n 0, 1, 0, 0, .null), (.iload_n 3, 1, 3, 0, .null), (.iconst 1, 1, 0, 0, .int 1), (.iadd, 1, 0, 0, .null)]) (L' := [some (.ref 0), some (.ref 2), some (.ref 93), some (.int x3)]) (st' := [.int (x3 + 1), .ref 0, .ref 93, .int q362.1]) (w' := q362.2) (g := []) (K := []) (by decide +kernel) rfl rfl rfl rfl jk0 ?_
                                                                                    obtain ⟨hg363, h⟩ := jgd h
                                                                                    refine ev_sld hLs (by decide +kernel) hg363 ?_
                                                                                    refine ev_seg (o := 11) (nL := 4) (q := 1805) (xs := [(.aload_n 0, 1, 0, 0, .null), (.iload_n 3, 1, 3, 0, .null), (.iconst 2, 1, 0, 0, .int 2), (.iadd, 1, 0, 0, .null)]) (L' := [some (.ref 0), some (.ref 2), some (.ref 93), some (.int x3)]) (st' := [.int (x3 + 2), .ref 0, .int (xs (Int32.toNatClampNeg (x3 + 1))), .ref 93, .int q362.1]) (w' := q362.2) (g := []) (K := []) (by decide +kernel) rfl rfl rfl rfl jk0 ?_
                                                                                    obtain ⟨hg364, h⟩ := jgd h
                                                                                    refine ev_sld hLs (by decide +kernel) hg364 ?_
                                                                                    refine ev_seg (o := 11) (nL := 4) (q := 1810) (xs := [(.aload_n 0, 1, 0, 0, .null), (.iload_n 3, 1, 3, 0, .null), (.iconst 3, 1, 0, 0, .int 3), (.iadd, 1, 0, 0, .null)]) (L' := [some (.ref 0), some (.ref 2), some (.ref 93), some (.int x3)]) (st' := [.int (x3 + 3), .ref 0, .int (xs (Int32.toNatClampNeg (x3 + 2))), .int (xs (Int32.toNatClampNeg (x3 + 1))), .ref 93, .int q362.1]) (w' := q362.2) (g := []) (K := []) (by decide +kernel) rfl rfl rfl rfl jk0 ?_
                                                                                    obtain ⟨hg365, h⟩ := jgd h
                                                                                    refine ev_sld hLs (by decide +kernel) hg365 ?_
                                                                                    refine ev_seg (o := 11) (nL := 4) (q := 1815) (xs := [(.aload_n 0, 1, 0, 0, .null), (.iload_n 3, 1, 3, 0, .null), (.iconst 4, 1, 0, 0, .int 4), (.iadd, 1, 0, 0, .null)]) (L' := [some (.ref 0), some (.ref 2), some (.ref 93), some (.int x3)]) (st' := [.int (x3 + 4), .ref 0, .int (xs (Int32.toNatClampNeg (x3 + 3))), .int (xs (Int32.toNatClampNeg (x3 + 2))), .int (xs (Int32.toNatClampNeg (x3 + 1))), .ref 93, .int q362.1]) (w' := q362.2) (g := []) (K := []) (by decide +kernel) rfl rfl rfl rfl jk0 ?_
                                                                                    obtain ⟨hg366, h⟩ := jgd h
                                                                                    refine ev_sld hLs (by decide +kernel) hg366 ?_
                                                                                    refine ev_seg (o := 11) (nL := 4) (q := 1820) (xs := [(.aload_n 0, 1, 0, 0, .null), (.iload_n 3, 1, 3, 0, .null), (.iconst 5, 1, 0, 0, .int 5), (.iadd, 1, 0, 0, .null)]) (L' := [some (.ref 0), some (.ref 2), some (.ref 93), some (.int x3)]) (st' := [.int (x3 + 5), .ref 0, .int (xs (Int32.toNatClampNeg (x3 + 4))), .int (xs (Int32.toNatClampNeg (x3 + 3))), .int (xs (Int32.toNatClampNeg (x3 + 2))), .int (xs (Int32.toNatClampNeg (x3 + 1))), .ref 93, .int q362.1]) (w' := q362.2) (g := []) (K := []) (by decide +kernel) rfl rfl rfl rfl jk0 ?_
                                                                                    obtain ⟨hg367, h⟩ := jgd h
                                                                                    refine ev_sld hLs (by decide +kernel) hg367 ?_
                                                                                    refine ev_seg (o := 11) (nL := 4) (q := 1826) (xs := [(.aload_n 0, 1, 0, 0, .null), (.iload_n 3, 1, 3, 0, .null), (.bipush 6, 2, 0, 0, .int 6), (.iadd, 1, 0, 0, .null)]) (L' := [some (.ref 0), some (.ref 2), some (.ref 93), some (.int x3)]) (st' := [.int (x3 + 6), .ref 0, .int (xs (Int32.toNatClampNeg (x3 + 5))), .int (xs (Int32.toNatClampNeg (x3 + 4))), .int (xs (Int32.toNatClampNeg (x3 + 3))), .int (xs (Int32.toNatClampNeg (x3 + 2))), .int (xs (Int32.toNatClampNeg (x3 + 1))), .ref 93, .int q362.1]) (w' := q362.2) (g := []) (K := []) (by decide +kernel) rfl rfl rfl rfl jk0 ?_
                                                                                    obtain ⟨hg368, h⟩ := jgd h
                                                                                    refine ev_sld hLs (by decide +kernel) hg368 ?_
                                                                                    refine ev_seg (o := 11) (nL := 4) (q := 1832) (xs := [(.aload_n 0, 1, 0, 0, .null), (.iload_n 3, 1, 3, 0, .null), (.bipush 7, 2, 0, 0, .int 7), (.iadd, 1, 0, 0, .null)]) (L' := [some (.ref 0), some (.ref 2), some (.ref 93), some (.int x3)]) (st' := [.int (x3 + 7), .ref 0, .int (xs (Int32.toNatClampNeg (x3 + 6))), .int (xs (Int32.toNatClampNeg (x3 + 5))), .int (xs (Int32.toNatClampNeg (x3 + 4))), .int (xs (Int32.toNatClampNeg (x3 + 3))), .int (xs (Int32.toNatClampNeg (x3 + 2))), .int (xs (Int32.toNatClampNeg (x3 + 1))), .ref 93, .int q362.1]) (w' := q362.2) (g := []) (K := []) (by decide +kernel) rfl rfl rfl rfl jk0 ?_
                                                                                    obtain ⟨hg369, h⟩ := jgd h
                                                                                    refine ev_sld hLs (by decide +kernel) hg369 ?_
                                                                                    obtain ⟨q370, hq370, h⟩ := jbe h
                                                                                    refine ev_callV (ci := 10) (a := 93) (y2 := y_Model_proof) (o := 11) (idx := 182) (d2 := d_Model_proof) (n := 7) (mc2 := 0) (ms2 := 0) (As := [.int (xs (Int32.toNatClampNeg (x3 + 1))), .int (xs (Int32.toNatClampNeg (x3 + 2))), .int (xs (Int32.toNatClampNeg (x3 + 3))), .int (xs (Int32.toNatClampNeg (x3 + 4))), .int (xs (Int32.toNatClampNeg (x3 + 5))), .int (xs (Int32.toNatClampNeg (x3 + 6))), .int (xs (Int32.toNatClampNeg (x3 + 7)))]) (st := [.int q362.1]) (res2 := (some (.int q370.1), jR0, q370.2)) (by decide +kernel) rfl lk_11_182 mo_Model_proof mv_Model_proof ⟨Nat.le_of_ble_eq_true rfl, Nat.le_of_ble_eq_true rfl⟩ rfl rfl kz_93 (by decide) rfl (Nat.le_of_ble_eq_true rfl) ⟨Nat.le_of_ble_eq_true rfl, Nat.le_of_ble_eq_true rfl⟩ hG (e_Model_proof hG hq370) ?_
                                                                                    refine ev_icmp_eq (off := 173) (tgt := 2009) (by decide +kernel) (by decide) (fun c371 => ?_) (fun c371 => ?_)
                                                                                    · replace h := jpos c371 h
                                                                                      refine ev_seg (o := 11) (nL := 4) (q := 18) (xs := [(.iinc 3 8, 3, 3, 0, .int 8), (.goto (-1994), 3, 0, 0, .null)]) (L' := [some (.ref 0), some (.ref 2), some (.ref 93), some (.int (x3 + 8))]) (st' := []) (w' := q370.2) (g := []) (K := []) (by decide +kernel) rfl rfl rfl rfl jk0 ?_
                                                                                      refine ev_mask [true, true, true, true] ?_
                                                                                      exact ih _ _ _ h
                                                                                    · replace h := jneg c371 h
                                                                                      refine ev_seg (o := 11) (nL := 4) (q := 1840) (xs := [(.iconst 0, 1, 0, 0, .int 0)]) (L' := [some (.ref 0), some (.ref 2), some (.ref 93), some (.int x3)]) (st' := [.int 0]) (w' := q370.2) (g := []) (K := []) (by decide +kernel) rfl rfl rfl rfl jk0 ?_
                                                                                      cases h
                                                                                      exact ev_zret (by decide +kernel) rfl rfl rfl rfl rfl
                                                                                  · replace h := jneg c354 h
                                                                                    by_cases c372 : ((xs (Int32.toNatClampNeg x3)) &&& 63) = 39
                                                                                    · replace h := jpos c372 h
                                                                                      refine ev_tableIn (dflt := 1976) (lo := 0) (hi := 44) (offs := #[195, 280, 323, 356, 419, 462, 515, 548, 571, 594, 617, 650, 683, 716, 779, 802, 825, 848, 881, 924, 957, 1000, 1043, 1096, 1129, 1162, 1195, 1218, 1297, 1350, 1393, 1426, 1449, 1482, 1515, 1558, 1591, 1651, 1721, 1808, 1841, 1874, 1927, 1940, 1953]) (len := 195) (off := 1808) (tgt := 1841) (by decide +kernel) (by rw [c372]; decide) (by rw [c372]; decide) (by rw [c372]; decide) (by decide) ?_
                                                                                      refine ev_seg (o := 11) (nL := 4) (q := 1846) (xs := [(.aload_n 1, 1, 1, 0, .null), (.aload_n 0, 1, 0, 0, .null), (.iload_n 3, 1, 3, 0, .null), (.iconst 1, 1, 0, 0, .int 1), (.iadd, 1, 0, 0, .null)]) (L' := [some (.ref 0), some (.ref 2), some (.ref 93), some (.int x3)]) (st' := [.int (x3 + 1), .ref 0, .ref 2]) (w' := w) (g := []) (K := []) (by decide +kernel) rfl rfl rfl rfl jk0 ?_
                                                                                      obtain ⟨hg373, h⟩ := jgd h
                                                                                      refine ev_sld hLs (by decide +kernel) hg373 ?_
                                                                                      refine ev_seg (o := 11) (nL := 4) (q := 1851) (xs := [(.aload_n 0, 1, 0, 0, .null), (.iload_n 3, 1, 3, 0, .null), (.iconst 2, 1, 0, 0, .int 2), (.iadd, 1, 0, 0, .null)]) (L' := [some (.ref 0), some (.ref 2), some (.ref 93), some (.int x3)]) (st' := [.int (x3 + 2), .ref 0, .int (xs (Int32.toNatClampNeg (x3 + 1))), .ref 2]) (w' := w) (g := []) (K := []) (by decide +kernel) rfl rfl rfl rfl jk0 ?_
                                                                                      obtain ⟨hg374, h⟩ := jgd h
                                                                                      refine ev_sld hLs (by decide +kernel) hg374 ?_
                                                                                      obtain ⟨q375, hq375, h⟩ := jbe h
                                                                                      refine ev_callV (ci := 9) (a := 2) (y2 := y_Count_watch) (o := 11) (idx := 183) (d2 := d_Count_watch) (n := 2) (mc2 := 0) (ms2 := 0) (As := [.int (xs (Int32.toNatClampNeg (x3 + 1))), .int (xs (Int32.toNatClampNeg (x3 + 2)))]) (st := []) (res2 := (some (.int q375.1), jR0, q375.2)) (by decide +kernel) rfl lk_11_183 mo_Count_watch mv_Count_watch ⟨Nat.le_of_ble_eq_true rfl, Nat.le_of_ble_eq_true rfl⟩ rfl rfl kz_2 (by decide) rfl (Nat.le_of_ble_eq_true rfl) ⟨Nat.le_of_ble_eq_true rfl, Nat.le_of_ble_eq_true rfl⟩ hG (e_Count_watch hG hq375) ?_
                                                                                      refine ev_seg (o := 11) (nL := 4) (q := 1860) (xs := [(.aload_n 2, 1, 2, 0, .null), (.aload_n 0, 1, 0, 0, .null), (.iload_n 3, 1, 3, 0, .null), (.iconst 1, 1, 0, 0, .int 1), (.iadd, 1, 0, 0, .null)]) (L' := [some (.ref 0), some (.ref 2), some (.ref 93), some (.int x3)]) (st' := [.int (x3 + 1), .ref 0, .ref 93, .int q375.1]) (w' := q375.2) (g := []) (K := []) (by decide +kernel) rfl rfl rfl rfl jk0 ?_
                                                                                      obtain ⟨hg376, h⟩ := jgd h
                                                                                      refine ev_sld hLs (by decide +kernel) hg376 ?_
                                                                                      refine ev_seg (o := 11) (nL := 4) (q := 1865) (xs := [(.aload_n 0, 1, 0, 0, .null), (.iload_n 3, 1, 3, 0, .null), (.iconst 2, 1, 0, 0, .int 2), (.iadd, 1, 0, 0, .null)]) (L' := [some (.ref 0), some (.ref 2), some (.ref 93), some (.int x3)]) (st' := [.int (x3 + 2), .ref 0, .int (xs (Int32.toNatClampNeg (x3 + 1))), .ref 93, .int q375.1]) (w' := q375.2) (g := []) (K := []) (by decide +kernel) rfl rfl rfl rfl jk0 ?_
                                                                                      obtain ⟨hg377, h⟩ := jgd h
                                                                                      refine ev_sld hLs (by decide +kernel) hg377 ?_
                                                                                      obtain ⟨q378, hq378, h⟩ := jbe h
                                                                                      refine ev_callV (ci := 10) (a := 93) (y2 := y_Model_watch) (o := 11) (idx := 186) (d2 := d_Model_watch) (n := 2) (mc2 := 0) (ms2 := 0) (As := [.int (xs (Int32.toNatClampNeg (x3 + 1))), .int (xs (Int32.toNatClampNeg (x3 + 2)))]) (st := [.int q375.1]) (res2 := (some (.int q378.1), jR0, q378.2)) (by decide +kernel) rfl lk_11_186 mo_Model_watch mv_Model_watch ⟨Nat.le_of_ble_eq_true rfl, Nat.le_of_ble_eq_true rfl⟩ rfl rfl kz_93 (by decide) rfl (Nat.le_of_ble_eq_true rfl) ⟨Nat.le_of_ble_eq_true rfl, Nat.le_of_ble_eq_true rfl⟩ hG (e_Model_watch hG hq378) ?_
                                                                                      refine ev_icmp_eq (off := 140) (tgt := 2009) (by decide +kernel) (by decide) (fun c379 => ?_) (fun c379 => ?_)
                                                                                      · replace h := jpos c379 h
                                                                                        refine ev_seg (o := 11) (nL := 4) (q := 18) (xs := [(.iinc 3 8, 3, 3, 0, .int 8), (.goto (-1994), 3, 0, 0, .null)]) (L' := [some (.ref 0), some (.ref 2), some (.ref 93), some (.int (x3 + 8))]) (st' := []) (w' := q378.2) (g := []) (K := []) (by decide +kernel) rfl rfl rfl rfl jk0 ?_
                                                                                        refine ev_mask [true, true, true, true] ?_
                                                                                        exact ih _ _ _ h
                                                                                      · replace h := jneg c379 h
                                                                                        refine ev_seg (o := 11) (nL := 4) (q := 1873) (xs := [(.iconst 0, 1, 0, 0, .int 0)]) (L' := [some (.ref 0), some (.ref 2), some (.ref 93), some (.int x3)]) (st' := [.int 0]) (w' := q378.2) (g := []) (K := []) (by decide +kernel) rfl rfl rfl rfl jk0 ?_
                                                                                        cases h
                                                                                        exact ev_zret (by decide +kernel) rfl rfl rfl rfl rfl
                                                                                    · replace h := jneg c372 h
                                                                                      by_cases c380 : ((xs (Int32.toNatClampNeg x3)) &&& 63) = 40
                                                                                      · replace h := jpos c380 h
                                                                                        refine ev_tableIn (dflt := 1976) (lo := 0) (hi := 44) (offs := #[195, 280, 323, 356, 419, 462, 515, 548, 571, 594, 617, 650, 683, 716, 779, 802, 825, 848, 881, 924, 957, 1000, 1043, 1096, 1129, 1162, 1195, 1218, 1297, 1350, 1393, 1426, 1449, 1482, 1515, 1558, 1591, 1651, 1721, 1808, 1841, 1874, 1927, 1940, 1953]) (len := 195) (off := 1841) (tgt := 1874) (by decide +kernel) (by rw [c380]; decide) (by rw [c380]; decide) (by rw [c380]; decide) (by decide) ?_
                                                                                        refine ev_seg (o := 11) (nL := 4) (q := 1879) (xs := [(.aload_n 1, 1, 1, 0, .null), (.aload_n 0, 1, 0, 0, .null), (.iload_n 3, 1, 3, 0, .null), (.iconst 1, 1, 0, 0, .int 1), (.iadd, 1, 0, 0, .null)]) (L' := [some (.ref 0), some (.ref 2), some (.ref 93), some (.int x3)]) (st' := [.int (x3 + 1), .ref 0, .ref 2]) (w' := w) (g := []) (K := []) (by decide +kernel) rfl rfl rfl rfl jk0 ?_
                                                                                        obtain ⟨hg381, h⟩ := jgd h
                                                                                        refine ev_sld hLs (by decide +kernel) hg381 ?_
                                                                                        refine ev_seg (o := 11) (nL := 4) (q := 1884) (xs := [(.aload_n 0, 1, 0, 0, .null), (.iload_n 3, 1, 3, 0, .null), (.iconst 2, 1, 0, 0, .int 2), (.iadd, 1, 0, 0, .null)]) (L' := [some (.ref 0), some (.ref 2), some (.ref 93), some (.int x3)]) (st' := [.int (x3 + 2), .ref 0, .int (xs (Int32.toNatClampNeg (x3 + 1))), .ref 2]) (w' := w) (g := []) (K := []) (by decide +kernel) rfl rfl rfl rfl jk0 ?_
                                                                                        obtain ⟨hg382, h⟩ := jgd h
                                                                                        refine ev_sld hLs (by decide +kernel) hg382 ?_
                                                                                        obtain ⟨q383, hq383, h⟩ := jbe h
                                                                                        refine ev_callV (ci := 9) (a := 2) (y2 := y_Count_unseen) (o := 11) (idx := 187) (d2 := d_Count_unseen) (n := 2) (mc2 := 0) (ms2 := 0) (As := [.int (xs (Int32.toNatClampNeg (x3 + 1))), .int (xs (Int32.toNatClampNeg (x3 + 2)))]) (st := []) (res2 := (some (.int q383.1), jR0, q383.2)) (by decide +kernel) rfl lk_11_187 mo_Count_unseen mv_Count_unseen ⟨Nat.le_of_ble_eq_true rfl, Nat.le_of_ble_eq_true rfl⟩ rfl rfl kz_2 (by decide) rfl (Nat.le_of_ble_eq_true rfl) ⟨Nat.le_of_ble_eq_true rfl, Nat.le_of_ble_eq_true rfl⟩ hG (e_Count_unseen hG hq383) ?_
                                                                                        refine ev_seg (o := 11) (nL := 4) (q := 1893) (xs := [(.aload_n 2, 1, 2, 0, .null), (.aload_n 0, 1, 0, 0, .null), (.iload_n 3, 1, 3, 0, .null), (.iconst 1, 1, 0, 0, .int 1), (.iadd, 1, 0, 0, .null)]) (L' := [some (.ref 0), some (.ref 2), some (.ref 93), some (.int x3)]) (st' := [.int (x3 + 1), .ref 0, .ref 93, .int q383.1]) (w' := q383.2) (g := []) (K := []) (by decide +kernel) rfl rfl rfl rfl jk0 ?_
                                                                                        obtain ⟨hg384, h⟩ := jgd h
                                                                                        refine ev_sld hLs (by decide +kernel) hg384 ?_
                                                                                        refine ev_seg (o := 11) (nL := 4) (q := 1898) (xs := [(.aload_n 0, 1, 0, 0, .null), (.iload_n 3, 1, 3, 0, .null), (.iconst 2, 1, 0, 0, .int 2), (.iadd, 1, 0, 0, .null)]) (L' := [some (.ref 0), some (.ref 2), some (.ref 93), some (.int x3)]) (st' := [.int (x3 + 2), .ref 0, .int (xs (Int32.toNatClampNeg (x3 + 1))), .ref 93, .int q383.1]) (w' := q383.2) (g := []) (K := []) (by decide +kernel) rfl rfl rfl rfl jk0 ?_
                                                                                        obtain ⟨hg385, h⟩ := jgd h
                                                                                        refine ev_sld hLs (by decide +kernel) hg385 ?_
                                                                                        obtain ⟨q386, hq386, h⟩ := jbe h
                                                                                        refine ev_callV (ci := 10) (a := 93) (y2 := y_Model_unseen) (o := 11) (idx := 190) (d2 := d_Model_unseen) (n := 2) (mc2 := 0) (ms2 := 0) (As := [.int (xs (Int32.toNatClampNeg (x3 + 1))), .int (xs (Int32.toNatClampNeg (x3 + 2)))]) (st := [.int q383.1]) (res2 := (some (.int q386.1), jR0, q386.2)) (by decide +kernel) rfl lk_11_190 mo_Model_unseen mv_Model_unseen ⟨Nat.le_of_ble_eq_true rfl, Nat.le_of_ble_eq_true rfl⟩ rfl rfl kz_93 (by decide) rfl (Nat.le_of_ble_eq_true rfl) ⟨Nat.le_of_ble_eq_true rfl, Nat.le_of_ble_eq_true rfl⟩ hG (e_Model_unseen hG hq386) ?_
                                                                                        refine ev_icmp_eq (off := 107) (tgt := 2009) (by decide +kernel) (by decide) (fun c387 => ?_) (fun c387 => ?_)
                                                                                        · replace h := jpos c387 h
                                                                                          refine ev_seg (o := 11) (nL := 4) (q := 18) (xs := [(.iinc 3 8, 3, 3, 0, .int 8), (.goto (-1994), 3, 0, 0, .null)]) (L' := [some (.ref 0), some (.ref 2), some (.ref 93), some (.int (x3 + 8))]) (st' := []) (w' := q386.2) (g := []) (K := []) (by decide +kernel) rfl rfl rfl rfl jk0 ?_
                                                                                          refine ev_mask [true, true, true, true] ?_
                                                                                          exact ih _ _ _ h
                                                                                        · replace h := jneg c387 h
                                                                                          refine ev_seg (o := 11) (nL := 4) (q := 1906) (xs := [(.iconst 0, 1, 0, 0, .int 0)]) (L' := [some (.ref 0), some (.ref 2), some (.ref 93), some (.int x3)]) (st' := [.int 0]) (w' := q386.2) (g := []) (K := []) (by decide +kernel) rfl rfl rfl rfl jk0 ?_
                                                                                          cases h
                                                                                          exact ev_zret (by decide +kernel) rfl rfl rfl rfl rfl
                                                                                      · replace h := jneg c380 h
                                                                                        by_cases c388 : ((xs (Int32.toNatClampNeg x3)) &&& 63) = 41
                                                                                        · replace h := jpos c388 h
                                                                                          refine ev_tableIn (dflt := 1976) (lo := 0) (hi := 44) (offs := #[195, 280, 323, 356, 419, 462, 515, 548, 571, 594, 617, 650, 683, 716, 779, 802, 825, 848, 881, 924, 957, 1000, 1043, 1096, 1129, 1162, 1195, 1218, 1297, 1350, 1393, 1426, 1449, 1482, 1515, 1558, 1591, 1651, 1721, 1808, 1841, 1874, 1927, 1940, 1953]) (len := 195) (off := 1874) (tgt := 1907) (by decide +kernel) (by rw [c388]; decide) (by rw [c388]; decide) (by rw [c388]; decide) (by decide) ?_
                                                                                          refine ev_seg (o := 11) (nL := 4) (q := 1912) (xs := [(.aload_n 1, 1, 1, 0, .null), (.aload_n 0, 1, 0, 0, .null), (.iload_n 3, 1, 3, 0, .null), (.iconst 1, 1, 0, 0, .int 1), (.iadd, 1, 0, 0, .null)]) (L' := [some (.ref 0), some (.ref 2), some (.ref 93), some (.int x3)]) (st' := [.int (x3 + 1), .ref 0, .ref 2]) (w' := w) (g := []) (K := []) (by decide +kernel) rfl rfl rfl rfl jk0 ?_
                                                                                          obtain ⟨hg389, h⟩ := jgd h
                                                                                          refine ev_sld hLs (by decide +kernel) hg389 ?_
                                                                                          refine ev_seg (o := 11) (nL := 4) (q := 1917) (xs := [(.aload_n 0, 1, 0, 0, .null), (.iload_n 3, 1, 3, 0, .null), (.iconst 2, 1, 0, 0, .int 2), (.iadd, 1, 0, 0, .null)]) (L' := [some (.ref 0), some (.ref 2), some (.ref 93), some (.int x3)]) (st' := [.int (x3 + 2), .ref 0, .int (xs (Int32.toNatClampNeg (x3 + 1))), .ref 2]) (w' := w) (g := []) (K := []) (by decide +kernel) rfl rfl rfl rfl jk0 ?_
                                                                                          obtain ⟨hg390, h⟩ := jgd h
                                                                                          refine ev_sld hLs (by decide +kernel) hg390 ?_
                                                                                          refine ev_seg (o := 11) (nL := 4) (q := 1922) (xs := [(.aload_n 0, 1, 0, 0, .null), (.iload_n 3, 1, 3, 0, .null), (.iconst 3, 1, 0, 0, .int 3), (.iadd, 1, 0, 0, .null)]) (L' := [some (.ref 0), some (.ref 2), some (.ref 93), some (.int x3)]) (st' := [.int (x3 + 3), .ref 0, .int (xs (Int32.toNatClampNeg (x3 + 2))), .int (xs (Int32.toNatClampNeg (x3 + 1))), .ref 2]) (w' := w) (g := []) (K := []) (by decide +kernel) rfl rfl rfl rfl jk0 ?_
                                                                                          obtain ⟨hg391, h⟩ := jgd h
                                                                                          refine ev_sld hLs (by decide +kernel) hg391 ?_
                                                                                          refine ev_seg (o := 11) (nL := 4) (q := 1927) (xs := [(.aload_n 0, 1, 0, 0, .null), (.iload_n 3, 1, 3, 0, .null), (.iconst 4, 1, 0, 0, .int 4), (.iadd, 1, 0, 0, .null)]) (L' := [some (.ref 0), some (.ref 2), some (.ref 93), some (.int x3)]) (st' := [.int (x3 + 4), .ref 0, .int (xs (Int32.toNatClampNeg (x3 + 3))), .int (xs (Int32.toNatClampNeg (x3 + 2))), .int (xs (Int32.toNatClampNeg (x3 + 1))), .ref 2]) (w' := w) (g := []) (K := []) (by decide +kernel) rfl rfl rfl rfl jk0 ?_
                                                                                          obtain ⟨hg392, h⟩ := jgd h
                                                                                          refine ev_sld hLs (by decide +kernel) hg392 ?_
                                                                                          obtain ⟨q393, hq393, h⟩ := jbe h
                                                                                          refine ev_callV (ci := 9) (a := 2) (y2 := y_Count_trick) (o := 11) (idx := 191) (d2 := d_Count_trick) (n := 4) (mc2 := 0) (ms2 := 0) (As := [.int (xs (Int32.toNatClampNeg (x3 + 1))), .int (xs (Int32.toNatClampNeg (x3 + 2))), .int (xs (Int32.toNatClampNeg (x3 + 3))), .int (xs (Int32.toNatClampNeg (x3 + 4)))]) (st := []) (res2 := (some (.int q393.1), jR0, q393.2)) (by decide +kernel) rfl lk_11_191 mo_Count_trick mv_Count_trick ⟨Nat.le_of_ble_eq_true rfl, Nat.le_of_ble_eq_true rfl⟩ rfl rfl kz_2 (by decide) rfl (Nat.le_of_ble_eq_true rfl) ⟨Nat.le_of_ble_eq_true rfl, Nat.le_of_ble_eq_true rfl⟩ hG (e_Count_trick hG hq393) ?_
                                                                                          refine ev_seg (o := 11) (nL := 4) (q := 1936) (xs := [(.aload_n 2, 1, 2, 0, .null), (.aload_n 0, 1, 0, 0, .null), (.iload_n 3, 1, 3, 0, .null), (.iconst 1, 1, 0, 0, .int 1), (.iadd, 1, 0, 0, .null)]) (L' := [some (.ref 0), some (.ref 2), some (.ref 93), some (.int x3)]) (st' := [.int (x3 + 1), .ref 0, .ref 93, .int q393.1]) (w' := q393.2) (g := []) (K := []) (by decide +kernel) rfl rfl rfl rfl jk0 ?_
                                                                                          obtain ⟨hg394, h⟩ := jgd h
                                                                                          refine ev_sld hLs (by decide +kernel) hg394 ?_
                                                                                          refine ev_seg (o := 11) (nL := 4) (q := 1941) (xs := [(.aload_n 0, 1, 0, 0, .null), (.iload_n 3, 1, 3, 0, .null), (.iconst 2, 1, 0, 0, .int 2), (.iadd, 1, 0, 0, .null)]) (L' := [some (.ref 0), some (.ref 2), some (.ref 93), some (.int x3)]) (st' := [.int (x3 + 2), .ref 0, .int (xs (Int32.toNatClampNeg (x3 + 1))), .ref 93, .int q393.1]) (w' := q393.2) (g := []) (K := []) (by decide +kernel) rfl rfl rfl rfl jk0 ?_
                                                                                          obtain ⟨hg395, h⟩ := jgd h
                                                                                          refine ev_sld hLs (by decide +kernel) hg395 ?_
                                                                                          refine ev_seg (o := 11) (nL := 4) (q := 1946) (xs := [(.aload_n 0, 1, 0, 0, .null), (.iload_n 3, 1, 3, 0, .null), (.iconst 3, 1, 0, 0, .int 3), (.iadd, 1, 0, 0, .null)]) (L' := [some (.ref 0), some (.ref 2), some (.ref 93), some (.int x3)]) (st' := [.int (x3 + 3), .ref 0, .int (xs (Int32.toNatClampNeg (x3 + 2))), .int (xs (Int32.toNatClampNeg (x3 + 1))), .ref 93, .int q393.1]) (w' := q393.2) (g := []) (K := []) (by decide +kernel) rfl rfl rfl rfl jk0 ?_
                                                                                          obtain ⟨hg396, h⟩ := jgd h
                                                                                          refine ev_sld hLs (by decide +kernel) hg396 ?_
                                                                                          refine ev_seg (o := 11) (nL := 4) (q := 1951) (xs := [(.aload_n 0, 1, 0, 0, .null), (.iload_n 3, 1, 3, 0, .null), (.iconst 4, 1, 0, 0, .int 4), (.iadd, 1, 0, 0, .null)]) (L' := [some (.ref 0), some (.ref 2), some (.ref 93), some (.int x3)]) (st' := [.int (x3 + 4), .ref 0, .int (xs (Int32.toNatClampNeg (x3 + 3))), .int (xs (Int32.toNatClampNeg (x3 + 2))), .int (xs (Int32.toNatClampNeg (x3 + 1))), .ref 93, .int q393.1]) (w' := q393.2) (g := []) (K := []) (by decide +kernel) rfl rfl rfl rfl jk0 ?_
                                                                                          obtain ⟨hg397, h⟩ := jgd h
                                                                                          refine ev_sld hLs (by decide +kernel) hg397 ?_
                                                                                          obtain ⟨q398, hq398, h⟩ := jbe h
                                                                                          refine ev_callV (ci := 10) (a := 93) (y2 := y_Model_trick) (o := 11) (idx := 194) (d2 := d_Model_trick) (n := 4) (mc2 := 0) (ms2 := 0) (As := [.int (xs (Int32.toNatClampNeg (x3 + 1))), .int (xs (Int32.toNatClampNeg (x3 + 2))), .int (xs (Int32.toNatClampNeg (x3 + 3))), .int (xs (Int32.toNatClampNeg (x3 + 4)))]) (st := [.int q393.1]) (res2 := (some (.int q398.1), jR0, q398.2)) (by decide +kernel) rfl lk_11_194 mo_Model_trick mv_Model_trick ⟨Nat.le_of_ble_eq_true rfl, Nat.le_of_ble_eq_true rfl⟩ rfl rfl kz_93 (by decide) rfl (Nat.le_of_ble_eq_true rfl) ⟨Nat.le_of_ble_eq_true rfl, Nat.le_of_ble_eq_true rfl⟩ hG (e_Model_trick hG hq398) ?_
                                                                                          refine ev_icmp_eq (off := 54) (tgt := 2009) (by decide +kernel) (by decide) (fun c399 => ?_) (fun c399 => ?_)
                                                                                          · replace h := jpos c399 h
                                                                                            refine ev_seg (o := 11) (nL := 4) (q := 18) (xs := [(.iinc 3 8, 3, 3, 0, .int 8), (.goto (-1994), 3, 0, 0, .null)]) (L' := [some (.ref 0), some (.ref 2), some (.ref 93), some (.int (x3 + 8))]) (st' := []) (w' := q398.2) (g := []) (K := []) (by decide +kernel) rfl rfl rfl rfl jk0 ?_
                                                                                            refine ev_mask [true, true, true, true] ?_
                                                                                            exact ih _ _ _ h
                                                                                          · replace h := jneg c399 h
                                                                                            refine ev_seg (o := 11) (nL := 4) (q := 1959) (xs := [(.iconst 0, 1, 0, 0, .int 0)]) (L' := [some (.ref 0), some (.ref 2), some (.ref 93), some (.int x3)]) (st' := [.int 0]) (w' := q398.2) (g := []) (K := []) (by decide +kernel) rfl rfl rfl rfl jk0 ?_
                                                                                            cases h
                                                                                            exact ev_zret (by decide +kernel) rfl rfl rfl rfl rfl
                                                                                        · replace h := jneg c388 h
                                                                                          by_cases c400 : ((xs (Int32.toNatClampNeg x3)) &&& 63) = 42
                                                                                          · replace h := jpos c400 h
                                                                                            refine ev_tableIn (dflt := 1976) (lo := 0) (hi := 44) (offs := #[195, 280, 323, 356, 419, 462, 515, 548, 571, 594, 617, 650, 683, 716, 779, 802, 825, 848, 881, 924, 957, 1000, 1043, 1096, 1129, 1162, 1195, 1218, 1297, 1350, 1393, 1426, 1449, 1482, 1515, 1558, 1591, 1651, 1721, 1808, 1841, 1874, 1927, 1940, 1953]) (len := 195) (off := 1927) (tgt := 1960) (by decide +kernel) (by rw [c400]; decide) (by rw [c400]; decide) (by rw [c400]; decide) (by decide) ?_
                                                                                            refine ev_seg (o := 11) (nL := 4) (q := 1961) (xs := [(.aload_n 1, 1, 1, 0, .null)]) (L' := [some (.ref 0), some (.ref 2), some (.ref 93), some (.int x3)]) (st' := [.ref 2]) (w' := w) (g := []) (K := []) (by decide +kernel) rfl rfl rfl rfl jk0 ?_
                                                                                            obtain ⟨q401, hq401, h⟩ := jbe h
                                                                                            refine ev_callV (ci := 9) (a := 2) (y2 := y_Count_image) (o := 11) (idx := 195) (d2 := D_Count_image) (n := 0) (mc2 := 0) (ms2 := 0) (As := []) (st := []) (res2 := (some (.int q401.1), jR0, q401.2)) (by decide +kernel) rfl lk_11_195 mo_Count_image mv_Count_image ⟨Nat.le_of_ble_eq_true rfl, Nat.le_of_ble_eq_true rfl⟩ rfl rfl kz_2 (by decide) rfl (Nat.le_of_ble_eq_true rfl) ⟨Nat.le_of_ble_eq_true rfl, Nat.le_of_ble_eq_true rfl⟩ hG (e_Count_image hG hq401) ?_
                                                                                            refine ev_seg (o := 11) (nL := 4) (q := 1965) (xs := [(.aload_n 2, 1, 2, 0, .null)]) (L' := [some (.ref 0), some (.ref 2), some (.ref 93), some (.int x3)]) (st' := [.ref 93, .int q401.1]) (w' := q401.2) (g := []) (K := []) (by decide +kernel) rfl rfl rfl rfl jk0 ?_
                                                                                            obtain ⟨q402, hq402, h⟩ := jbe h
                                                                                            refine ev_callV (ci := 10) (a := 93) (y2 := y_Model_image) (o := 11) (idx := 199) (d2 := d_Model_image) (n := 0) (mc2 := 0) (ms2 := 0) (As := []) (st := [.int q401.1]) (res2 := (some (.int q402.1), jR0, q402.2)) (by decide +kernel) rfl lk_11_199 mo_Model_image mv_Model_image ⟨Nat.le_of_ble_eq_true rfl, Nat.le_of_ble_eq_true rfl⟩ rfl rfl kz_93 (by decide) rfl (Nat.le_of_ble_eq_true rfl) ⟨Nat.le_of_ble_eq_true rfl, Nat.le_of_ble_eq_true rfl⟩ hG (e_Model_image hG hq402) ?_
                                                                                            refine ev_icmp_eq (off := 41) (tgt := 2009) (by decide +kernel) (by decide) (fun c403 => ?_) (fun c403 => ?_)
                                                                                            · replace h := jpos c403 h
                                                                                              refine ev_seg (o := 11) (nL := 4) (q := 18) (xs := [(.iinc 3 8, 3, 3, 0, .int 8), (.goto (-1994), 3, 0, 0, .null)]) (L' := [some (.ref 0), some (.ref 2), some (.ref 93), some (.int (x3 + 8))]) (st' := []) (w' := q402.2) (g := []) (K := []) (by decide +kernel) rfl rfl rfl rfl jk0 ?_
                                                                                              refine ev_mask [true, true, true, true] ?_
                                                                                              exact ih _ _ _ h
                                                                                            · replace h := jneg c403 h
                                                                                              refine ev_seg (o := 11) (nL := 4) (q := 1972) (xs := [(.iconst 0, 1, 0, 0, .int 0)]) (L' := [some (.ref 0), some (.ref 2), some (.ref 93), some (.int x3)]) (st' := [.int 0]) (w' := q402.2) (g := []) (K := []) (by decide +kernel) rfl rfl rfl rfl jk0 ?_
                                                                                              cases h
                                                                                              exact ev_zret (by decide +kernel) rfl rfl rfl rfl rfl
                                                                                          · replace h := jneg c400 h
                                                                                            by_cases c404 : ((xs (Int32.toNatClampNeg x3)) &&& 63) = 43
                                                                                            · replace h := jpos c404 h
                                                                                              refine ev_tableIn (dflt := 1976) (lo := 0) (hi := 44) (offs := #[195, 280, 323, 356, 419, 462, 515, 548, 571, 594, 617, 650, 683, 716, 779, 802, 825, 848, 881, 924, 957, 1000, 1043, 1096, 1129, 1162, 1195, 1218, 1297, 1350, 1393, 1426, 1449, 1482, 1515, 1558, 1591, 1651, 1721, 1808, 1841, 1874, 1927, 1940, 1953]) (len := 195) (off := 1940) (tgt := 1973) (by decide +kernel) (by rw [c404]; decide) (by rw [c404]; decide) (by rw [c404]; decide) (by decide) ?_
                                                                                              refine ev_seg (o := 11) (nL := 4) (q := 1974) (xs := [(.aload_n 1, 1, 1, 0, .null)]) (L' := [some (.ref 0), some (.ref 2), some (.ref 93), some (.int x3)]) (st' := [.ref 2]) (w' := w) (g := []) (K := []) (by decide +kernel) rfl rfl rfl rfl jk0 ?_
                                                                                              obtain ⟨q405, hq405, h⟩ := jbe h
                                                                                              refine ev_callV (ci := 9) (a := 2) (y2 := y_Count_back) (o := 11) (idx := 200) (d2 := D_Count_back) (n := 0) (mc2 := 0) (ms2 := 0) (As := []) (st := []) (res2 := (some (.int q405.1), jR0, q405.2)) (by decide +kernel) rfl lk_11_200 mo_Count_back mv_Count_back ⟨Nat.le_of_ble_eq_true rfl, Nat.le_of_ble_eq_true rfl⟩ rfl rfl kz_2 (by decide) rfl (Nat.le_of_ble_eq_true rfl) ⟨Nat.le_of_ble_eq_true rfl, Nat.le_of_ble_eq_true rfl⟩ hG (e_Count_back hG hq405) ?_
                                                                                              refine ev_seg (o := 11) (nL := 4) (q := 1978) (xs := [(.aload_n 2, 1, 2, 0, .null)]) (L' := [some (.ref 0), some (.ref 2), some (.ref 93), some (.int x3)]) (st' := [.ref 93, .int q405.1]) (w' := q405.2) (g := []) (K := []) (by decide +kernel) rfl rfl rfl rfl jk0 ?_
                                                                                              obtain ⟨q406, hq406, h⟩ := jbe h
                                                                                              refine ev_callV (ci := 10) (a := 93) (y2 := y_Model_back) (o := 11) (idx := 203) (d2 := d_Model_back) (n := 0) (mc2 := 0) (ms2 := 0) (As := []) (st := [.int q405.1]) (res2 := (some (.int q406.1), jR0, q406.2)) (by decide +kernel) rfl lk_11_203 mo_Model_back mv_Model_back ⟨Nat.le_of_ble_eq_true rfl, Nat.le_of_ble_eq_true rfl⟩ rfl rfl kz_93 (by decide) rfl (Nat.le_of_ble_eq_true rfl) ⟨Nat.le_of_ble_eq_true rfl, Nat.le_of_ble_eq_true rfl⟩ hG (e_Model_back hG hq406) ?_
                                                                                              refine ev_icmp_eq (off := 28) (tgt := 2009) (by decide +kernel) (by decide) (fun c407 => ?_) (fun c407 => ?_)
                                                                                              · replace h := jpos c407 h
                                                                                                refine ev_seg (o := 11) (nL := 4) (q := 18) (xs := [(.iinc 3 8, 3, 3, 0, .int 8), (.goto (-1994), 3, 0, 0, .null)]) (L' := [some (.ref 0), some (.ref 2), some (.ref 93), some (.int (x3 + 8))]) (st' := []) (w' := q406.2) (g := []) (K := []) (by decide +kernel) rfl rfl rfl rfl jk0 ?_
                                                                                                refine ev_mask [true, true, true, true] ?_
                                                                                                exact ih _ _ _ h
                                                                                              · replace h := jneg c407 h
                                                                                                refine ev_seg (o := 11) (nL := 4) (q := 1985) (xs := [(.iconst 0, 1, 0, 0, .int 0)]) (L' := [some (.ref 0), some (.ref 2), some (.ref 93), some (.int x3)]) (st' := [.int 0]) (w' := q406.2) (g := []) (K := []) (by decide +kernel) rfl rfl rfl rfl jk0 ?_
                                                                                                cases h
                                                                                                exact ev_zret (by decide +kernel) rfl rfl rfl rfl rfl
                                                                                            · replace h := jneg c404 h
                                                                                              by_cases c408 : ((xs (Int32.toNatClampNeg x3)) &&& 63) = 44
                                                                                              · replace h := jpos c408 h
                                                                                                refine ev_tableIn (dflt := 1976) (lo := 0) (hi := 44) (offs := #[195, 280, 323, 356, 419, 462, 515, 548, 571, 594, 617, 650, 683, 716, 779, 802, 825, 848, 881, 924, 957, 1000, 1043, 1096, 1129, 1162, 1195, 1218, 1297, 1350, 1393, 1426, 1449, 1482, 1515, 1558, 1591, 1651, 1721, 1808, 1841, 1874, 1927, 1940, 1953]) (len := 195) (off := 1953) (tgt := 1986) (by decide +kernel) (by rw [c408]; decide) (by rw [c408]; decide) (by rw [c408]; decide) (by decide) ?_
                                                                                                refine ev_seg (o := 11) (nL := 4) (q := 1991) (xs := [(.aload_n 1, 1, 1, 0, .null), (.aload_n 0, 1, 0, 0, .null), (.iload_n 3, 1, 3, 0, .null), (.iconst 1, 1, 0, 0, .int 1), (.iadd, 1, 0, 0, .null)]) (L' := [some (.ref 0), some (.ref 2), some (.ref 93), some (.int x3)]) (st' := [.int (x3 + 1), .ref 0, .ref 2]) (w' := w) (g := []) (K := []) (by decide +kernel) rfl rfl rfl rfl jk0 ?_
                                                                                                obtain ⟨hg409, h⟩ := jgd h
                                                                                                refine ev_sld hLs (by decide +kernel) hg409 ?_
                                                                                                obtain ⟨q410, hq410, h⟩ := jbe h
                                                                                                refine ev_callV (ci := 9) (a := 2) (y2 := y_Count_about) (o := 11) (idx := 204) (d2 := d_Count_about) (n := 1) (mc2 := 0) (ms2 := 0) (As := [.int (xs (Int32.toNatClampNeg (x3 + 1)))]) (st := []) (res2 := (some (.int q410.1), jR0, q410.2)) (by decide +kernel) rfl lk_11_204 mo_Count_about mv_Count_about ⟨Nat.le_of_ble_eq_true rfl, Nat.le_of_ble_eq_true rfl⟩ rfl rfl kz_2 (by decide) rfl (Nat.le_of_ble_eq_true rfl) ⟨Nat.le_of_ble_eq_true rfl, Nat.le_of_ble_eq_true rfl⟩ hG (e_Count_about hG hq410) ?_
                                                                                                refine ev_seg (o := 11) (nL := 4) (q := 2000) (xs := [(.aload_n 2, 1, 2, 0, .null), (.aload_n 0, 1, 0, 0, .null), (.iload_n 3, 1, 3, 0, .null), (.iconst 1, 1, 0, 0, .int 1), (.iadd, 1, 0, 0, .null)]) (L' := [some (.ref 0), some (.ref 2), some (.ref 93), some (.int x3)]) (st' := [.int (x3 + 1), .ref 0, .ref 93, .int q410.1]) (w' := q410.2) (g := []) (K := []) (by decide +kernel) rfl rfl rfl rfl jk0 ?_
                                                                                                obtain ⟨hg411, h⟩ := jgd h
                                                                                                refine ev_sld hLs (by decide +kernel) hg411 ?_
                                                                                                obtain ⟨q412, hq412, h⟩ := jbe h
                                                                                                refine ev_callV (ci := 10) (a := 93) (y2 := y_Model_about) (o := 11) (idx := 207) (d2 := d_Model_about) (n := 1) (mc2 := 0) (ms2 := 0) (As := [.int (xs (Int32.toNatClampNeg (x3 + 1)))]) (st := [.int q410.1]) (res2 := (some (.int q412.1), jR0, q412.2)) (by decide +kernel) rfl lk_11_207 mo_Model_about mv_Model_about ⟨Nat.le_of_ble_eq_true rfl, Nat.le_of_ble_eq_true rfl⟩ rfl rfl kz_93 (by decide) rfl (Nat.le_of_ble_eq_true rfl) ⟨Nat.le_of_ble_eq_true rfl, Nat.le_of_ble_eq_true rfl⟩ hG (e_Model_about hG hq412) ?_
                                                                                                refine ev_icmp_eq (off := 5) (tgt := 2009) (by decide +kernel) (by decide) (fun c413 => ?_) (fun c413 => ?_)
                                                                                                · replace h := jpos c413 h
                                                                                                  refine ev_seg (o := 11) (nL := 4) (q := 18) (xs := [(.iinc 3 8, 3, 3, 0, .int 8), (.goto (-1994), 3, 0, 0, .null)]) (L' := [some (.ref 0), some (.ref 2), some (.ref 93), some (.int (x3 + 8))]) (st' := []) (w' := q412.2) (g := []) (K := []) (by decide +kernel) rfl rfl rfl rfl jk0 ?_
                                                                                                  refine ev_mask [true, true, true, true] ?_
                                                                                                  exact ih _ _ _ h
                                                                                                · replace h := jneg c413 h
                                                                                                  refine ev_seg (o := 11) (nL := 4) (q := 2008) (xs := [(.iconst 0, 1, 0, 0, .int 0)]) (L' := [some (.ref 0), some (.ref 2), some (.ref 93), some (.int x3)]) (st' := [.int 0]) (w' := q412.2) (g := []) (K := []) (by decide +kernel) rfl rfl rfl rfl jk0 ?_
                                                                                                  cases h
                                                                                                  exact ev_zret (by decide +kernel) rfl rfl rfl rfl rfl
                                                                                              · replace h := jneg c408 h
                                                                                                have ec2 := lv_neT (a := 0) c2 rfl
                                                                                                have ec18 := lv_neT (a := 1) c18 rfl
                                                                                                have ec28 := lv_neT (a := 2) c28 rfl
                                                                                                have ec36 := lv_neT (a := 3) c36 rfl
                                                                                                have ec50 := lv_neT (a := 4) c50 rfl
                                                                                                have ec60 := lv_neT (a := 5) c60 rfl
                                                                                                have ec72 := lv_neT (a := 6) c72 rfl
                                                                                                have ec80 := lv_neT (a := 7) c80 rfl
                                                                                                have ec86 := lv_neT (a := 8) c86 rfl
                                                                                                have ec92 := lv_neT (a := 9) c92 rfl
                                                                                                have ec98 := lv_neT (a := 10) c98 rfl
                                                                                                have ec106 := lv_neT (a := 11) c106 rfl
                                                                                                have ec114 := lv_neT (a := 12) c114 rfl
                                                                                                have ec122 := lv_neT (a := 13) c122 rfl
                                                                                                have ec136 := lv_neT (a := 14) c136 rfl
                                                                                                have ec142 := lv_neT (a := 15) c142 rfl
                                                                                                have ec148 := lv_neT (a := 16) c148 rfl
                                                                                                have ec154 := lv_neT (a := 17) c154 rfl
                                                                                                have ec162 := lv_neT (a := 18) c162 rfl
                                                                                                have ec172 := lv_neT (a := 19) c172 rfl
                                                                                                have ec180 := lv_neT (a := 20) c180 rfl
                                                                                                have ec190 := lv_neT (a := 21) c190 rfl
                                                                                                have ec200 := lv_neT (a := 22) c200 rfl
                                                                                                have ec212 := lv_neT (a := 23) c212 rfl
                                                                                                have ec220 := lv_neT (a := 24) c220 rfl
                                                                                                have ec228 := lv_neT (a := 25) c228 rfl
                                                                                                have ec236 := lv_neT (a := 26) c236 rfl
                                                                                                have ec242 := lv_neT (a := 27) c242 rfl
                                                                                                have ec258 := lv_neT (a := 28) c258 rfl
                                                                                                have ec270 := lv_neT (a := 29) c270 rfl
                                                                                                have ec280 := lv_neT (a := 30) c280 rfl
                                                                                                have ec288 := lv_neT (a := 31) c288 rfl
                                                                                                have ec294 := lv_neT (a := 32) c294 rfl
                                                                                                have ec302 := lv_neT (a := 33) c302 rfl
                                                                                                have ec310 := lv_neT (a := 34) c310 rfl
                                                                                                have ec320 := lv_neT (a := 35) c320 rfl
                                                                                                have ec328 := lv_neT (a := 36) c328 rfl
                                                                                                have ec340 := lv_neT (a := 37) c340 rfl
                                                                                                have ec354 := lv_neT (a := 38) c354 rfl
                                                                                                have ec372 := lv_neT (a := 39) c372 rfl
                                                                                                have ec380 := lv_neT (a := 40) c380 rfl
                                                                                                have ec388 := lv_neT (a := 41) c388 rfl
                                                                                                have ec400 := lv_neT (a := 42) c400 rfl
                                                                                                have ec404 := lv_neT (a := 43) c404 rfl
                                                                                                have ec408 := lv_neT (a := 44) c408 rfl
                                                                                                refine ev_tableOut (dflt := 1976) (lo := 0) (hi := 44) (offs := #[195, 280, 323, 356, 419, 462, 515, 548, 571, 594, 617, 650, 683, 716, 779, 802, 825, 848, 881, 924, 957, 1000, 1043, 1096, 1129, 1162, 1195, 1218, 1297, 1350, 1393, 1426, 1449, 1482, 1515, 1558, 1591, 1651, 1721, 1808, 1841, 1874, 1927, 1940, 1953]) (len := 195) (tgt := 2009) (by decide +kernel) (by omega) (by decide) ?_
                                                                                                refine ev_seg (o := 11) (nL := 4) (q := 18) (xs := [(.iinc 3 8, 3, 3, 0, .int 8), (.goto (-1994), 3, 0, 0, .null)]) (L' := [some (.ref 0), some (.ref 2), some (.ref 93), some (.int (x3 + 8))]) (st' := []) (w' := w) (g := []) (K := []) (by decide +kernel) rfl rfl rfl rfl jk0 ?_
                                                                                                refine ev_mask [true, true, true, true] ?_
                                                                                                exact ih _ _ _ h

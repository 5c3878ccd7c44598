abbrev D_Tokens_takeWord : Nat := 6
abbrev D_Tokens_split : Nat := 7
abbrev D_Reader_clause : Nat := 41
abbrev D_Reader_read : Nat := 42
abbrev D_Count_text : Nat := 43
abbrev D_Rows_copy : Nat := 1
abbrev D_Treaty_copy : Nat := 2
abbrev D_State_copy : Nat := 3
abbrev D_Count_image : Nat := 4
abbrev D_Count_back : Nat := 4
abbrev D_Reader_either : Nat := 40
theorem lk_3_31 : Cond.methodLink (jcn 3) 31 arraycopyName ∈ jTbl := jmem 1084 (by decide +kernel) (by decide +kernel)
theorem lk_7_62 : Cond.methodLink (jcn 7) 62 ⟨"java/lang/String", "length", "()I"⟩ ∈ jTbl := jmem 630 (by decide +kernel) (by decide +kernel)
theorem lk_7_67 : Cond.methodLink (jcn 7) 67 ⟨"java/lang/String", "charAt", "(I)C"⟩ ∈ jTbl := jmem 640 (by decide +kernel) (by decide +kernel)
theorem jac1 : Cond.native arraycopyName ∈ jTbl := jmem 1086 (by decide +kernel) (by decide +kernel)
theorem jac2 : Cond.static arraycopyName ∈ jTbl := jmem 1085 (by decide +kernel) (by decide +kernel)
theorem jac3 : Cond.initialized "java/lang/System" ∈ jTbl := jmem 118 (by decide +kernel) (by decide +kernel)
def jcg (sp dp n : Int32) (n0 n1 : Nat) : Bool := !(decide (sp < 0) || decide (dp < 0) || decide (n < 0)) && decide (sp.toNatClampNeg + n.toNatClampNeg ≤ n0) && decide (dp.toNatClampNeg + n.toNatClampNeg ≤ n1)
def jcpw (w : jW) (a0 a : Nat) (sp dp n : Int32) : jW := (fun b j => if b = a then va_cpy (w.1 a0) (w.1 a) sp.toNatClampNeg dp.toNatClampNeg n.toNatClampNeg j else w.1 b j, w.2)
section JZ
variable {l : Launch} {G : jG} {R : Room} {y : jM} {res : Option Value × jS × jW} {mc ms c0 s0 : Nat} {pc : Nat} {L : List (Option Value)} {st : List Value} {r : jS} {w : jW}
theorem ev_acopy {o idx a0 a : Nat} {sp dp n : Int32} (hd : decode y.2.1 pc = .ok (.invokestatic idx, 3)) (hoo : y.1.cls = jcn o) (hl : Cond.methodLink (jcn o) idx arraycopyName ∈ jTbl) (hk0 : jSk r a0 = 20) (hk1 : jSk r a = 20) (hg : jcg sp dp n (jSl r a0) (jSl r a) = true) (hfr : 1 ≤ R.frames) (h8 : (st.map fun v => v.category).sum + (nativeFrameWords "java/lang/System" "arraycopy" 5 + 11) ≤ R.locals)
    (k : Ev l G R y res mc ms c0 s0 (pc + 3) L st r (jcpw w a0 a sp dp n)) : Ev l G R y res mc ms c0 s0 pc L (.int n :: .int dp :: .ref a :: .int sp :: .ref a0 :: st) r w := by
  intro p e s m args below meth c H locs ls hx hb hn hr hlk ho hts hnm hK hW hlo hL
  have nn : ∀ z : Int32, ¬ z < 0 → z.toInt = (z.toNatClampNeg : Int) := by
    intro z hz
    have hz0 : (0 : Int) ≤ z.toInt := by
      have := Int32.not_lt.mp hz
      simpa using Int32.le_iff_toInt_le.mp this
    show z.toInt = ((z.toInt.toNat : Nat) : Int)
    omega
  simp only [jcg, Bool.and_eq_true, Bool.not_eq_true', Bool.or_eq_false_iff, decide_eq_false_iff_not, decide_eq_true_eq] at hg
  obtain ⟨⟨⟨⟨h1, h2⟩, h3⟩, h4⟩, h5⟩ := hg
  have hc0 := (hW.2.2.2 a0 (by omega)).2.1 (Or.inl hk0)
  have hc1 := (hW.2.2.2 a (by omega)).2.1 (Or.inl hk1)
  have ha2 := (hW.2.2.1 a (by omega)).1
  unfold jari at hc0 hc1
  rw [hk0] at hc0
  rw [hk1] at hc1
  have hA : ArrOfT s (G.2.1 20) .int := (hK.1.2 0 _ rfl).1
  intro T hT X
  obtain ⟨-, k0, hk0', cm0, hkk0⟩ := hA (jSl r a0) (fun j => .int (w.1 a0 j))
  obtain ⟨-, k1, hk1', cm1, hkk1⟩ := hA (jSl r a) (fun j => .int (w.1 a j))
  obtain ⟨vm', X', step⟩ := X.arraycopy hx (by rw [← hoo]; exact ho) (hts _ (jTs_in hl)) (hts _ (jTs_in jac1)) (hts _ (jTs_in jac2)) (hts _ (jTs_in jac3)) (src := jad G a0) (dst := jad G a) (cs := arrV (G.2.1 20) (jSl r a0) (fun j => .int (w.1 a0 j))) (cd := arrV (G.2.1 20) (jSl r a) (fun j => .int (w.1 a j))) (srcPos := sp) (destPos := dp) (n := n) (by rw [hT]; exact hc0) (by rw [hT]; exact hc1)
    (fun _ h => by cases h) (fun _ h => by cases h) (fun h => by cases h) (fun h => by cases h) hk0' hk1' hkk0 hkk1 (by simp [refKind]) h1 h2 h3
    (by rw [nn sp h1, nn n h3, arrV_size]; omega)
    (by rw [nn dp h2, nn n h3, arrV_size]; omega)
    (fun vm₁ _ i hi => by
      have e : (arrV (G.2.1 20) (jSl r a0) (fun j => Value.int (w.1 a0 j))).slots.getD (sp.toNatClampNeg + i) .null = .int (w.1 a0 (sp.toNatClampNeg + i)) := by
        rw [Array.getD_eq_getD_getElem?, arrV_read _ _ (by omega)]
        rfl
      refine ⟨?_, ?_⟩
      · rw [e]; rfl
      · rw [e]; exact trivial)
    (g := F0 m pc ls (.int n :: .int dp :: .ref (jad G a) :: .int sp :: .ref (jad G a0) :: st.map (jcv G))) rfl (by rw [hn]; exact hL.1) (rest := st.map (jcv G)) rfl (by rw [hb]; exact hd) hfr (by show 2 * 0 + _ + _ ≤ _; rw [jcatsum]; omega)
  have e1 : copied (arrV (G.2.1 20) (jSl r a0) (fun j => .int (w.1 a0 j))) (arrV (G.2.1 20) (jSl r a) (fun j => .int (w.1 a j))) sp dp n = arrV (G.2.1 20) (jSl r a) (fun j => .int (va_cpy (w.1 a0) (w.1 a) sp.toNatClampNeg dp.toNatClampNeg n.toNatClampNeg j)) := va_copied (fun z => .int z) _ _ (w.1 a0) (w.1 a) h4
  rw [e1] at X' step
  have hl2 : jad G a < H.size := (Array.getElem?_eq_some_iff.mp hc1).1
  have hheap : ((T.setVm vm').setCell (jad G a) (arrV (G.2.1 20) (jSl r a) (fun j => .int (va_cpy (w.1 a0) (w.1 a) sp.toNatClampNeg dp.toNatClampNeg n.toNatClampNeg j)))).heap = H.setIfInBounds (jad G a) (arrV (G.2.1 20) (jSl r a) (fun j => .int (va_cpy (w.1 a0) (w.1 a) sp.toNatClampNeg dp.toNatClampNeg n.toNatClampNeg j))) := by rw [← hT]; rfl
  obtain ⟨t, a1, b1⟩ := k p e s m args below meth c _ _ ls hx hb hn hr hlk ho hts hnm hK (hW.put (w' := jcpw w a0 a sp dp n) (a := a) (by omega) (by simp) (fun q hq => by simp [Array.getElem?_setIfInBounds, Ne.symm hq]) (fun b hb j => if_neg hb) (fun _ _ _ => rfl) ⟨fun h => by omega, fun _ => by
      unfold jari
      rw [hk1]
      simp only [Array.getElem?_setIfInBounds, hl2, if_true]
      congr 2
      funext j
      simp [jcpw], fun h => by omega⟩) (fun q hq => by
      rcases List.mem_append.mp hq with h | h
      · exact hlo q h
      · obtain ⟨z, -, hz⟩ := List.mem_map.mp h
        rw [← hz]
        exact jad_ge ha2) hL _ hheap X'
  exact ⟨t, step t a1, b1⟩
theorem ev_ldcS {o idx : Nat} (hd : decode y.2.1 pc = .ok (.ldc idx, 2)) (hoo : y.1.cls = jcn 7) (ho7 : (o, idx) = (7, 60)) (hG : jX G)
    (k : Ev l G R y res mc ms c0 s0 (pc + 2) L (.ref 1 :: st) r w) : Ev l G R y res mc ms c0 s0 pc L st r w := by
  intro p e s m args below meth c H locs ls hx hb hn hr hlk ho hts hnm hK hW hlo hL
  cases ho7
  exact va_ldcS hx hb (own := jcn 7) (by rw [← hoo]; exact ho) (hG.2.2 s hK.2).1 hd (k p e s m args below meth c H locs ls hx hb hn hr hlk ho hts hnm hK hW hlo hL)
end JZ
def f_Tokens_takeWord_h55 : Nat → Int32 → Int32 → Int32 → Int32 → jW → Option (Int32 × jW)
  | 0, _, _, _, _, _ => none
  | n + 1, x1, x2, x3, x4, w =>
  if x4 < 97 then
    if jin x4 97 = true then
      if (jwd (Int32.toNatClampNeg x4)) = 32 then
        if x3 = ((w.1 78 2) - x1) then
          some (x2, w)
        else
          (f_Tokens_takeWord_h55 n) x1 (x2 + 1) 0 (x4 + 1) w
      else
        if x3 = (-1) then
          (f_Tokens_takeWord_h55 n) x1 x2 (-1) (x4 + 1) w
        else
          Option.bind (f_Rows_at 79 (x1 + x3) 0 w) fun q2 =>
          if q2.1 = (jwd (Int32.toNatClampNeg x4)) then
            (f_Tokens_takeWord_h55 n) x1 x2 (x3 + 1) (x4 + 1) q2.2
          else
            (f_Tokens_takeWord_h55 n) x1 x2 (-1) (x4 + 1) q2.2
    else none
  else
    some (29, w)
set_option maxRecDepth 20000 in
theorem t_Tokens_takeWord_h55 {l : Launch} {G : jG} (hG : jX G) : ∀ (n : Nat) (x1 : Int32) (x2 : Int32) (x3 : Int32) (x4 : Int32) (w : jW) (z : (Int32 × jW)), f_Tokens_takeWord_h55 n x1 x2 x3 x4 w = some z → Ev l G (jrm D_Tokens_takeWord 0 0) y_Tokens_takeWord (some (.int z.1), jR0, z.2) 0 0 0 0 55 [some (.ref 78), some (.int x1), some (.int x2), some (.int x3), some (.int x4), none] [] jR0 w := by
  intro n
  induction n with
  | zero => intro x1 x2 x3 x4 w z h; simp only [f_Tokens_takeWord_h55] at h; cases h
  | succ n ih =>
    intro x1 x2 x3 x4 w z h
    rw [f_Tokens_takeWord_h55] at h
    refine ev_seg (o := 7) (nL := 6) (q := 57) (xs := [(.iload 4, 2, 4, 0, .null)]) (L' := [some (.ref 78), some (.int x1), some (.int x2), some (.int x3), some (.int x4), none]) (st' := [.int x4]) (w' := w) (g := []) (K := []) (by decide +kernel) rfl rfl rfl rfl jk0 ?_
    refine ev_ldcS (o := 7) (idx := 60) (by decide +kernel) rfl rfl hG ?_
    refine ev_slen (o := 7) (idx := 62) (by decide +kernel) rfl lk_7_62 hG (Nat.le_of_ble_eq_true rfl) (Nat.le_of_ble_eq_true rfl) (Nat.le_of_ble_eq_true rfl) (Nat.le_of_ble_eq_true rfl) (Nat.le_of_ble_eq_true rfl) ?_
    refine ev_icmp_ge (off := 74) (tgt := 136) (by decide +kernel) (by decide) (fun c6 => ?_) (fun c6 => ?_)
    · replace h := jneg c6 h
      refine ev_seg (o := 7) (nL := 6) (q := 138) (xs := [(.bipush 29, 2, 0, 0, .int 29)]) (L' := [some (.ref 78), some (.int x1), some (.int x2), some (.int x3), some (.int x4), none]) (st' := [.int 29]) (w' := w) (g := []) (K := []) (by decide +kernel) rfl rfl rfl rfl jk0 ?_
      cases h
      exact ev_iret (by decide +kernel) rfl rfl rfl rfl
    · replace h := jpos c6 h
      refine ev_ldcS (o := 7) (idx := 60) (by decide +kernel) rfl rfl hG ?_
      refine ev_seg (o := 7) (nL := 6) (q := 69) (xs := [(.iload 4, 2, 4, 0, .null)]) (L' := [some (.ref 78), some (.int x1), some (.int x2), some (.int x3), some (.int x4), none]) (st' := [.int x4, .ref 1]) (w' := w) (g := []) (K := []) (by decide +kernel) rfl rfl rfl rfl jk0 ?_
      obtain ⟨hs, h⟩ := jgd h
      refine ev_schar (o := 7) (idx := 67) (by decide +kernel) rfl lk_7_67 hG (Nat.le_of_ble_eq_true rfl) (Nat.le_of_ble_eq_true rfl) (Nat.le_of_ble_eq_true rfl) (Nat.le_of_ble_eq_true rfl) (Nat.le_of_ble_eq_true rfl) hs ?_
      refine ev_seg (o := 7) (nL := 6) (q := 78) (xs := [(.istore 5, 2, 5, 0, .null), (.iload 5, 2, 5, 0, .null), (.bipush 32, 2, 0, 0, .int 32)]) (L' := [some (.ref 78), some (.int x1), some (.int x2), some (.int x3), some (.int x4), some (.int (jwd (Int32.toNatClampNeg x4)))]) (st' := [.int 32, .int (jwd (Int32.toNatClampNeg x4))]) (w' := w) (g := []) (K := []) (by decide +kernel) rfl rfl rfl rfl jk0 ?_
      refine ev_icmp_eq (off := 35) (tgt := 113) (by decide +kernel) (by decide) (fun c5 => ?_) (fun c5 => ?_)
      · replace h := jpos c5 h
        refine ev_seg (o := 7) (nL := 6) (q := 120) (xs := [(.iload_n 3, 1, 3, 0, .null), (.aload_n 0, 1, 0, 0, .null), (.getfield 23, 3, 7, 2, .int 0), (.iload_n 1, 1, 1, 0, .null), (.isub, 1, 0, 0, .null)]) (L' := [some (.ref 78), some (.int x1), some (.int x2), some (.int x3), some (.int x4), some (.int (jwd (Int32.toNatClampNeg x4)))]) (st' := [.int ((w.1 78 2) - x1), .int x3]) (w' := w) (g := []) (K := [(78, 7)]) (by decide +kernel) rfl rfl rfl rfl (jk1 kz_78 jk0) ?_
        refine ev_icmp_ne (off := 5) (tgt := 125) (by decide +kernel) (by decide) (fun c1 => ?_) (fun c1 => ?_)
        · replace h := jneg c1 h
          refine ev_seg (o := 7) (nL := 6) (q := 55) (xs := [(.iinc 2 1, 3, 2, 0, .int 1), (.iconst 0, 1, 0, 0, .int 0), (.istore_n 3, 1, 3, 0, .null), (.iinc 4 1, 3, 4, 0, .int 1), (.goto (-78), 3, 0, 0, .null)]) (L' := [some (.ref 78), some (.int x1), some (.int (x2 + 1)), some (.int 0), some (.int (x4 + 1)), some (.int (jwd (Int32.toNatClampNeg x4)))]) (st' := []) (w' := w) (g := []) (K := []) (by decide +kernel) rfl rfl rfl rfl jk0 ?_
          refine ev_mask [true, true, true, true, true, false] ?_
          exact ih _ _ _ _ _ _ h
        · replace h := jpos c1 h
          refine ev_seg (o := 7) (nL := 6) (q := 124) (xs := [(.iload_n 2, 1, 2, 0, .null)]) (L' := [some (.ref 78), some (.int x1), some (.int x2), some (.int x3), some (.int x4), some (.int (jwd (Int32.toNatClampNeg x4)))]) (st' := [.int x2]) (w' := w) (g := []) (K := []) (by decide +kernel) rfl rfl rfl rfl jk0 ?_
          cases h
          exact ev_iret (by decide +kernel) rfl rfl rfl rfl
      · replace h := jneg c5 h
        refine ev_seg (o := 7) (nL := 6) (q := 83) (xs := [(.iload_n 3, 1, 3, 0, .null), (.iconst (-1), 1, 0, 0, .int (-1))]) (L' := [some (.ref 78), some (.int x1), some (.int x2), some (.int x3), some (.int x4), some (.int (jwd (Int32.toNatClampNeg x4)))]) (st' := [.int (-1), .int x3]) (w' := w) (g := []) (K := []) (by decide +kernel) rfl rfl rfl rfl jk0 ?_
        refine ev_icmp_eq (off := 25) (tgt := 108) (by decide +kernel) (by decide) (fun c4 => ?_) (fun c4 => ?_)
        · replace h := jpos c4 h
          refine ev_seg (o := 7) (nL := 6) (q := 55) (xs := [(.iconst (-1), 1, 0, 0, .int (-1)), (.istore_n 3, 1, 3, 0, .null), (.goto 20, 3, 0, 0, .null), (.iinc 4 1, 3, 4, 0, .int 1), (.goto (-78), 3, 0, 0, .null)]) (L' := [some (.ref 78), some (.int x1), some (.int x2), some (.int (-1)), some (.int (x4 + 1)), some (.int (jwd (Int32.toNatClampNeg x4)))]) (st' := []) (w' := w) (g := []) (K := []) (by decide +kernel) rfl rfl rfl rfl jk0 ?_
          refine ev_mask [true, true, true, true, true, false] ?_
          exact ih _ _ _ _ _ _ h
        · replace h := jneg c4 h
          refine ev_seg (o := 7) (nL := 6) (q := 94) (xs := [(.aload_n 0, 1, 0, 0, .null), (.getfield 14, 3, 7, 0, .ref 3), (.iload_n 1, 1, 1, 0, .null), (.iload_n 3, 1, 3, 0, .null), (.iadd, 1, 0, 0, .null), (.iconst 0, 1, 0, 0, .int 0)]) (L' := [some (.ref 78), some (.int x1), some (.int x2), some (.int x3), some (.int x4), some (.int (jwd (Int32.toNatClampNeg x4)))]) (st' := [.int 0, .int (x1 + x3), .ref 79]) (w' := w) (g := []) (K := [(79, 3), (78, 7)]) (by decide +kernel) rfl rfl rfl rfl (jk1 kz_79 (jk1 kz_78 jk0)) ?_
          obtain ⟨q2, hq2, h⟩ := jbe h
          refine ev_callV (ci := 3) (a := 79) (y2 := y_Rows_at) (o := 7) (idx := 35) (d2 := d_Rows_at) (n := 2) (mc2 := 0) (ms2 := 0) (As := [.int (x1 + x3), .int 0]) (st := []) (res2 := (some (.int q2.1), jR0, q2.2)) (by decide +kernel) rfl lk_7_35 mo_Rows_at mv_Rows_at ⟨Nat.le_of_ble_eq_true rfl, Nat.le_of_ble_eq_true rfl⟩ rfl rfl kz_79 (by decide) rfl (Nat.le_of_ble_eq_true rfl) ⟨Nat.le_refl _, Nat.le_refl _⟩ hG (e_Rows_at hG kz_79 hq2) ?_
          refine ev_seg (o := 7) (nL := 6) (q := 99) (xs := [(.iload 5, 2, 5, 0, .null)]) (L' := [some (.ref 78), some (.int x1), some (.int x2), some (.int x3), some (.int x4), some (.int (jwd (Int32.toNatClampNeg x4)))]) (st' := [.int (jwd (Int32.toNatClampNeg x4)), .int q2.1]) (w' := q2.2) (g := []) (K := []) (by decide +kernel) rfl rfl rfl rfl jk0 ?_
          refine ev_icmp_ne (off := 9) (tgt := 108) (by decide +kernel) (by decide) (fun c3 => ?_) (fun c3 => ?_)
          · replace h := jneg c3 h
            refine ev_seg (o := 7) (nL := 6) (q := 55) (xs := [(.iconst (-1), 1, 0, 0, .int (-1)), (.istore_n 3, 1, 3, 0, .null), (.goto 20, 3, 0, 0, .null), (.iinc 4 1, 3, 4, 0, .int 1), (.goto (-78), 3, 0, 0, .null)]) (L' := [some (.ref 78), some (.int x1), some (.int x2), some (.int (-1)), some (.int (x4 + 1)), some (.int (jwd (Int32.toNatClampNeg x4)))]) (st' := []) (w' := q2.2) (g := []) (K := []) (by decide +kernel) rfl rfl rfl rfl jk0 ?_
            refine ev_mask [true, true, true, true, true, false] ?_
            exact ih _ _ _ _ _ _ h
          · replace h := jpos c3 h
            refine ev_seg (o := 7) (nL := 6) (q := 55) (xs := [(.iload_n 3, 1, 3, 0, .null), (.iconst 1, 1, 0, 0, .int 1), (.iadd, 1, 0, 0, .null), (.goto 4, 3, 0, 0, .null), (.istore_n 3, 1, 3, 0, .null), (.goto 20, 3, 0, 0, .null), (.iinc 4 1, 3, 4, 0, .int 1), (.goto (-78), 3, 0, 0, .null)]) (L' := [some (.ref 78), some (.int x1), some (.int x2), some (.int (x3 + 1)), some (.int (x4 + 1)), some (.int (jwd (Int32.toNatClampNeg x4)))]) (st' := []) (w' := q2.2) (g := []) (K := []) (by decide +kernel) rfl rfl rfl rfl jk0 ?_
            refine ev_mask [true, true, true, true, true, false] ?_
            exact ih _ _ _ _ _ _ h
def f_Tokens_takeWord_j48 (x1 : Int32) (w : jW) : Option (Int32 × jW) :=
  f_Tokens_takeWord_h55 jfu x1 0 0 0 w
set_option maxRecDepth 20000 in
theorem t_Tokens_takeWord_j48 {l : Launch} {G : jG} (hG : jX G) {x1 : Int32} {w : jW} {z : (Int32 × jW)} (h : f_Tokens_takeWord_j48 x1 w = some z) : Ev l G (jrm D_Tokens_takeWord 0 0) y_Tokens_takeWord (some (.int z.1), jR0, z.2) 0 0 0 0 48 [some (.ref 78), some (.int x1), none, none, none, none] [] jR0 w := by
  rw [f_Tokens_takeWord_j48] at h
  refine ev_seg (o := 7) (nL := 6) (q := 55) (xs := [(.iconst 0, 1, 0, 0, .int 0), (.istore_n 2, 1, 2, 0, .null), (.iconst 0, 1, 0, 0, .int 0), (.istore_n 3, 1, 3, 0, .null), (.iconst 0, 1, 0, 0, .int 0), (.istore 4, 2, 4, 0, .null)]) (L' := [some (.ref 78), some (.int x1), some (.int 0), some (.int 0), some (.int 0), none]) (st' := []) (w' := w) (g := []) (K := []) (by decide +kernel) rfl rfl rfl rfl jk0 ?_
  refine ev_mask [true, true, true, true, true, false] ?_
  exact t_Tokens_takeWord_h55 hG jfu _ _ _ _ _ _ h
def f_Tokens_takeWord_h7 : Nat → Int32 → Int32 → jW → Option (Int32 × jW)
  | 0, _, _, _ => none
  | n + 1, x1, x2, w =>
  if x2 < 300 then
    Option.bind (f_Rows_at 79 (w.1 78 2) 0 w) fun q7 =>
    Option.bind (f_Tokens_isLetter q7.1 q7.2) fun q8 =>
    if q8.1 = 0 then
      f_Tokens_takeWord_j48 x1 q8.2
    else
      jlw ((jup q8.2.1 78 2 ((q8.2.1 78 2) + 1)), q8.2.2) fun w9 =>
      (f_Tokens_takeWord_h7 n) x1 (x2 + 1) w9
  else
    f_Tokens_takeWord_j48 x1 w
set_option maxRecDepth 20000 in
theorem t_Tokens_takeWord_h7 {l : Launch} {G : jG} (hG : jX G) : ∀ (n : Nat) (x1 : Int32) (x2 : Int32) (w : jW) (z : (Int32 × jW)), f_Tokens_takeWord_h7 n x1 x2 w = some z → Ev l G (jrm D_Tokens_takeWord 0 0) y_Tokens_takeWord (some (.int z.1), jR0, z.2) 0 0 0 0 7 [some (.ref 78), some (.int x1), some (.int x2), none, none, none] [] jR0 w := by
  intro n
  induction n with
  | zero => intro x1 x2 w z h; simp only [f_Tokens_takeWord_h7] at h; cases h
  | succ n ih =>
    intro x1 x2 w z h
    rw [f_Tokens_takeWord_h7] at h
    refine ev_seg (o := 7) (nL := 6) (q := 11) (xs := [(.iload_n 2, 1, 2, 0, .null), (.sipush 300, 3, 0, 0, .int 300)]) (L' := [some (.ref 78), some (.int x1), some (.int x2), none, none, none]) (st' := [.int 300, .int x2]) (w' := w) (g := []) (K := []) (by decide +kernel) rfl rfl rfl rfl jk0 ?_
    refine ev_icmp_ge (off := 37) (tgt := 48) (by decide +kernel) (by decide) (fun c11 => ?_) (fun c11 => ?_)
    · replace h := jneg c11 h
      refine ev_mask [true, true, false, false, false, false] ?_
      exact t_Tokens_takeWord_j48 hG h
    · replace h := jpos c11 h
      refine ev_seg (o := 7) (nL := 6) (q := 23) (xs := [(.aload_n 0, 1, 0, 0, .null), (.getfield 14, 3, 7, 0, .ref 3), (.aload_n 0, 1, 0, 0, .null), (.getfield 23, 3, 7, 2, .int 0), (.iconst 0, 1, 0, 0, .int 0)]) (L' := [some (.ref 78), some (.int x1), some (.int x2), none, none, none]) (st' := [.int 0, .int (w.1 78 2), .ref 79]) (w' := w) (g := []) (K := [(78, 7), (79, 3), (78, 7)]) (by decide +kernel) rfl rfl rfl rfl (jk1 kz_78 (jk1 kz_79 (jk1 kz_78 jk0))) ?_
      obtain ⟨q7, hq7, h⟩ := jbe h
      refine ev_callV (ci := 3) (a := 79) (y2 := y_Rows_at) (o := 7) (idx := 35) (d2 := d_Rows_at) (n := 2) (mc2 := 0) (ms2 := 0) (As := [.int (w.1 78 2), .int 0]) (st := []) (res2 := (some (.int q7.1), jR0, q7.2)) (by decide +kernel) rfl lk_7_35 mo_Rows_at mv_Rows_at ⟨Nat.le_of_ble_eq_true rfl, Nat.le_of_ble_eq_true rfl⟩ rfl rfl kz_79 (by decide) rfl (Nat.le_of_ble_eq_true rfl) ⟨Nat.le_refl _, Nat.le_refl _⟩ hG (e_Rows_at hG kz_79 hq7) ?_
      obtain ⟨q8, hq8, h⟩ := jbe h
      refine ev_callS (y2 := y_Tokens_isLetter) (o := 7) (idx := 43) (d2 := d_Tokens_isLetter) (n := 1) (mc2 := 0) (ms2 := 0) (As := [.int q7.1]) (st := []) (res2 := (some (.int q8.1), jR0, q8.2)) (by decide +kernel) rfl lk_7_43 mo_Tokens_isLetter ms_Tokens_isLetter ⟨Nat.le_of_ble_eq_true rfl, Nat.le_of_ble_eq_true rfl⟩ rfl rfl (Nat.le_of_ble_eq_true rfl) ⟨Nat.le_refl _, Nat.le_refl _⟩ hG (e_Tokens_isLetter hG hq8) ?_
      refine ev_if_eq (off := 19) (tgt := 48) (by decide +kernel) (by decide) (fun c10 => ?_) (fun c10 => ?_)
      · replace h := jpos c10 h
        refine ev_mask [true, true, false, false, false, false] ?_
        exact t_Tokens_takeWord_j48 hG h
      · replace h := jneg c10 h
        refine ev_seg (o := 7) (nL := 6) (q := 42) (xs := [(.aload_n 0, 1, 0, 0, .null), (.dup, 1, 0, 0, .null), (.getfield 23, 3, 7, 2, .int 0), (.iconst 1, 1, 0, 0, .int 1), (.iadd, 1, 0, 0, .null), (.putfield 23, 3, 7, 2, .int 0)]) (L' := [some (.ref 78), some (.int x1), some (.int x2), none, none, none]) (st' := []) (w' := ((jup q8.2.1 78 2 ((q8.2.1 78 2) + 1)), q8.2.2)) (g := []) (K := [(78, 7), (78, 7)]) (by decide +kernel) rfl rfl rfl rfl (jk1 kz_78 (jk1 kz_78 jk0)) ?_
        refine jlw_c (P := fun w9 => Ev l G (jrm D_Tokens_takeWord 0 0) y_Tokens_takeWord (some (.int z.1), jR0, z.2) 0 0 0 0 42 [some (.ref 78), some (.int x1), some (.int x2), none, none, none] [] jR0 w9) h fun w9 h => ?_
        refine ev_seg (o := 7) (nL := 6) (q := 7) (xs := [(.iinc 2 1, 3, 2, 0, .int 1), (.goto (-38), 3, 0, 0, .null)]) (L' := [some (.ref 78), some (.int x1), some (.int (x2 + 1)), none, none, none]) (st' := []) (w' := w9) (g := []) (K := []) (by decide +kernel) rfl rfl rfl rfl jk0 ?_
        refine ev_mask [true, true, true, false, false, false] ?_
        exact ih _ _ _ _ h
def f_Tokens_takeWord (w : jW) : Option (Int32 × jW) :=
  f_Tokens_takeWord_h7 jfu (w.1 78 2) 0 w
set_option maxRecDepth 20000 in
theorem e_Tokens_takeWord {l : Launch} {G : jG} (hG : jX G) {w : jW} {z : (Int32 × jW)} (h : f_Tokens_takeWord w = some z) : Ct l G y_Tokens_takeWord D_Tokens_takeWord 0 0 [.ref 78] jR0 w (some (.int z.1), jR0, z.2) := by
  rw [f_Tokens_takeWord] at h
  refine Ct.of (L := [some (.ref 78), none, none, none, none, none]) (by decide) (Nat.le_of_ble_eq_true rfl) rfl ?_
  refine ev_seg (o := 7) (nL := 6) (q := 7) (xs := [(.aload_n 0, 1, 0, 0, .null), (.getfield 23, 3, 7, 2, .int 0), (.istore_n 1, 1, 1, 0, .null), (.iconst 0, 1, 0, 0, .int 0), (.istore_n 2, 1, 2, 0, .null)]) (L' := [some (.ref 78), some (.int (w.1 78 2)), some (.int 0), none, none, none]) (st' := []) (w' := w) (g := []) (K := [(78, 7)]) (by decide +kernel) rfl rfl rfl rfl (jk1 kz_78 jk0) ?_
  refine ev_mask [true, true, true, false, false, false] ?_
  exact t_Tokens_takeWord_h7 hG jfu _ _ _ _ h
def f_Tokens_split_j76 (k15 : Int32 → jW → Option jW) (x1 : Int32) (x3 : Int32) (w : jW) : Option jW :=
  Option.bind (f_Rows_cut 81 x3 w) fun q6 =>
  jlw ((jup q6.1 78 2 ((q6.1 78 2) + 1)), q6.2) fun w7 =>
  k15 (x1 + 1) w7
set_option maxRecDepth 20000 in
theorem t_Tokens_split_j76 {l : Launch} {G : jG} (hG : jX G) {k15 : Int32 → jW → Option jW} (hk15 : ∀ (x1 : Int32) (w : jW) (z : jW), k15 x1 w = some z → Ev l G (jrm D_Tokens_split 0 0) y_Tokens_split (none, jR0, z) 0 0 0 0 15 [some (.ref 78), some (.int x1), none, none] [] jR0 w) {x1 : Int32} {x3 : Int32} {w : jW} {z : jW} (h : f_Tokens_split_j76 k15 x1 x3 w = some z) : Ev l G (jrm D_Tokens_split 0 0) y_Tokens_split (none, jR0, z) 0 0 0 0 76 [some (.ref 78), some (.int x1), none, some (.int x3)] [] jR0 w := by
  rw [f_Tokens_split_j76] at h
  refine ev_seg (o := 7) (nL := 4) (q := 81) (xs := [(.aload_n 0, 1, 0, 0, .null), (.getfield 20, 3, 7, 1, .ref 3), (.iload_n 3, 1, 3, 0, .null)]) (L' := [some (.ref 78), some (.int x1), none, some (.int x3)]) (st' := [.int x3, .ref 81]) (w' := w) (g := []) (K := [(81, 3), (78, 7)]) (by decide +kernel) rfl rfl rfl rfl (jk1 kz_81 (jk1 kz_78 jk0)) ?_
  obtain ⟨q6, hq6, h⟩ := jbe h
  refine ev_callV (ci := 3) (a := 81) (y2 := y_Rows_cut) (o := 7) (idx := 31) (d2 := d_Rows_cut) (n := 1) (mc2 := 0) (ms2 := 0) (As := [.int x3]) (st := []) (res2 := (none, jR0, q6)) (by decide +kernel) rfl lk_7_31 mo_Rows_cut mv_Rows_cut ⟨Nat.le_of_ble_eq_true rfl, Nat.le_of_ble_eq_true rfl⟩ rfl rfl kz_81 (by decide) rfl (Nat.le_of_ble_eq_true rfl) ⟨Nat.le_refl _, Nat.le_refl _⟩ hG (e_Rows_cut hG kz_81 hq6) ?_
  refine ev_seg (o := 7) (nL := 4) (q := 94) (xs := [(.aload_n 0, 1, 0, 0, .null), (.dup, 1, 0, 0, .null), (.getfield 23, 3, 7, 2, .int 0), (.iconst 1, 1, 0, 0, .int 1), (.iadd, 1, 0, 0, .null), (.putfield 23, 3, 7, 2, .int 0)]) (L' := [some (.ref 78), some (.int x1), none, some (.int x3)]) (st' := []) (w' := ((jup q6.1 78 2 ((q6.1 78 2) + 1)), q6.2)) (g := []) (K := [(78, 7), (78, 7)]) (by decide +kernel) rfl rfl rfl rfl (jk1 kz_78 (jk1 kz_78 jk0)) ?_
  refine jlw_c (P := fun w7 => Ev l G (jrm D_Tokens_split 0 0) y_Tokens_split (none, jR0, z) 0 0 0 0 94 [some (.ref 78), some (.int x1), none, some (.int x3)] [] jR0 w7) h fun w7 h => ?_
  refine ev_seg (o := 7) (nL := 4) (q := 15) (xs := [(.goto 74, 3, 0, 0, .null), (.iinc 1 1, 3, 1, 0, .int 1), (.goto (-156), 3, 0, 0, .null)]) (L' := [some (.ref 78), some (.int (x1 + 1)), none, some (.int x3)]) (st' := []) (w' := w7) (g := []) (K := []) (by decide +kernel) rfl rfl rfl rfl jk0 ?_
  refine ev_mask [true, true, false, false] ?_
  exact hk15 _ _ _ h
def f_Tokens_split_h15 : Nat → Int32 → jW → Option jW
  | 0, _, _ => none
  | n + 1, x1, w =>
  if x1 ≤ 300 then
    Option.bind (f_Rows_at 79 (w.1 78 2) 0 w) fun q3 =>
    Option.bind (f_Rows_open 81 28 q3.2) fun q4 =>
    Option.bind (f_Rows_put 81 q4.1 1 (q4.2.1 78 2) q4.2) fun q5 =>
    if q3.1 = (-1) then
      some q5
    else
      if q3.1 = 32 then
        f_Tokens_split_j76 (f_Tokens_split_h15 n) x1 q4.1 q5
      else
        if q3.1 = 10 then
          f_Tokens_split_j76 (f_Tokens_split_h15 n) x1 q4.1 q5
        else
          Option.bind (f_Tokens_isLetter q3.1 q5) fun q8 =>
          if q8.1 = 0 then
            Option.bind (f_Tokens_isDigit q3.1 q8.2) fun q9 =>
            if q9.1 = 0 then
              Option.bind (f_Tokens_takeSign q3.1 q9.2) fun q10 =>
              Option.bind (f_Rows_put 81 q4.1 0 q10.1 q10.2) fun q11 =>
              (f_Tokens_split_h15 n) (x1 + 1) q11
            else
              Option.bind (f_Rows_put 81 q4.1 0 27 q9.2) fun q12 =>
              Option.bind (f_Tokens_takeNumber q12) fun q13 =>
              Option.bind (f_Rows_put 81 q4.1 2 q13.1 q13.2) fun q14 =>
              (f_Tokens_split_h15 n) (x1 + 1) q14
          else
            Option.bind (f_Tokens_takeWord q8.2) fun q16 =>
            Option.bind (f_Rows_put 81 q4.1 0 q16.1 q16.2) fun q17 =>
            (f_Tokens_split_h15 n) (x1 + 1) q17
  else
    some w
set_option maxRecDepth 20000 in
theorem t_Tokens_split_h15 {l : Launch} {G : jG} (hG : jX G) : ∀ (n : Nat) (x1 : Int32) (w : jW) (z : jW), f_Tokens_split_h15 n x1 w = some z → Ev l G (jrm D_Tokens_split 0 0) y_Tokens_split (none, jR0, z) 0 0 0 0 15 [some (.ref 78), some (.int x1), none, none] [] jR0 w := by
  intro n
  induction n with
  | zero => intro x1 w z h; simp only [f_Tokens_split_h15] at h; cases h
  | succ n ih =>
    intro x1 w z h
    rw [f_Tokens_split_h15] at h
    refine ev_seg (o := 7) (nL := 4) (q := 19) (xs := [(.iload_n 1, 1, 1, 0, .null), (.sipush 300, 3, 0, 0, .int 300)]) (L' := [some (.ref 78), some (.int x1), none, none]) (st' := [.int 300, .int x1]) (w' := w) (g := []) (K := []) (by decide +kernel) rfl rfl rfl rfl jk0 ?_
    refine ev_icmp_gt (off := 155) (tgt := 174) (by decide +kernel) (by decide) (fun c22 => ?_) (fun c22 => ?_)
    · replace h := jneg c22 h
      cases h
      exact ev_vret (by decide +kernel) rfl rfl rfl rfl
    · replace h := jpos c22 h
      refine ev_seg (o := 7) (nL := 4) (q := 31) (xs := [(.aload_n 0, 1, 0, 0, .null), (.getfield 14, 3, 7, 0, .ref 3), (.aload_n 0, 1, 0, 0, .null), (.getfield 23, 3, 7, 2, .int 0), (.iconst 0, 1, 0, 0, .int 0)]) (L' := [some (.ref 78), some (.int x1), none, none]) (st' := [.int 0, .int (w.1 78 2), .ref 79]) (w' := w) (g := []) (K := [(78, 7), (79, 3), (78, 7)]) (by decide +kernel) rfl rfl rfl rfl (jk1 kz_78 (jk1 kz_79 (jk1 kz_78 jk0))) ?_
      obtain ⟨q3, hq3, h⟩ := jbe h
      refine ev_callV (ci := 3) (a := 79) (y2 := y_Rows_at) (o := 7) (idx := 35) (d2 := d_Rows_at) (n := 2) (mc2 := 0) (ms2 := 0) (As := [.int (w.1 78 2), .int 0]) (st := []) (res2 := (some (.int q3.1), jR0, q3.2)) (by decide +kernel) rfl lk_7_35 mo_Rows_at mv_Rows_at ⟨Nat.le_of_ble_eq_true rfl, Nat.le_of_ble_eq_true rfl⟩ rfl rfl kz_79 (by decide) rfl (Nat.le_of_ble_eq_true rfl) ⟨Nat.le_refl _, Nat.le_refl _⟩ hG (e_Rows_at hG kz_79 hq3) ?_
      refine ev_seg (o := 7) (nL := 4) (q := 41) (xs := [(.istore_n 2, 1, 2, 0, .null), (.aload_n 0, 1, 0, 0, .null), (.getfield 20, 3, 7, 1, .ref 3), (.bipush 28, 2, 0, 0, .int 28)]) (L' := [some (.ref 78), some (.int x1), some (.int q3.1), none]) (st' := [.int 28, .ref 81]) (w' := q3.2) (g := []) (K := [(81, 3), (78, 7)]) (by decide +kernel) rfl rfl rfl rfl (jk1 kz_81 (jk1 kz_78 jk0)) ?_
      obtain ⟨q4, hq4, h⟩ := jbe h
      refine ev_callV (ci := 3) (a := 81) (y2 := y_Rows_open) (o := 7) (idx := 27) (d2 := d_Rows_open) (n := 1) (mc2 := 0) (ms2 := 0) (As := [.int 28]) (st := []) (res2 := (some (.int q4.1), jR0, q4.2)) (by decide +kernel) rfl lk_7_27 mo_Rows_open mv_Rows_open ⟨Nat.le_of_ble_eq_true rfl, Nat.le_of_ble_eq_true rfl⟩ rfl rfl kz_81 (by decide) rfl (Nat.le_of_ble_eq_true rfl) ⟨Nat.le_refl _, Nat.le_refl _⟩ hG (e_Rows_open hG kz_81 hq4) ?_
      refine ev_seg (o := 7) (nL := 4) (q := 55) (xs := [(.istore_n 3, 1, 3, 0, .null), (.aload_n 0, 1, 0, 0, .null), (.getfield 20, 3, 7, 1, .ref 3), (.iload_n 3, 1, 3, 0, .null), (.iconst 1, 1, 0, 0, .int 1), (.aload_n 0, 1, 0, 0, .null), (.getfield 23, 3, 7, 2, .int 0)]) (L' := [some (.ref 78), some (.int x1), some (.int q3.1), some (.int q4.1)]) (st' := [.int (q4.2.1 78 2), .int 1, .int q4.1, .ref 81]) (w' := q4.2) (g := []) (K := [(78, 7), (81, 3), (78, 7)]) (by decide +kernel) rfl rfl rfl rfl (jk1 kz_78 (jk1 kz_81 (jk1 kz_78 jk0))) ?_
      obtain ⟨q5, hq5, h⟩ := jbe h
      refine ev_callV (ci := 3) (a := 81) (y2 := y_Rows_put) (o := 7) (idx := 39) (d2 := d_Rows_put) (n := 3) (mc2 := 0) (ms2 := 0) (As := [.int q4.1, .int 1, .int (q4.2.1 78 2)]) (st := []) (res2 := (none, jR0, q5)) (by decide +kernel) rfl lk_7_39 mo_Rows_put mv_Rows_put ⟨Nat.le_of_ble_eq_true rfl, Nat.le_of_ble_eq_true rfl⟩ rfl rfl kz_81 (by decide) rfl (Nat.le_of_ble_eq_true rfl) ⟨Nat.le_refl _, Nat.le_refl _⟩ hG (e_Rows_put hG kz_81 hq5) ?_
      refine ev_seg (o := 7) (nL := 4) (q := 60) (xs := [(.iload_n 2, 1, 2, 0, .null), (.iconst (-1), 1, 0, 0, .int (-1))]) (L' := [some (.ref 78), some (.int x1), some (.int q3.1), some (.int q4.1)]) (st' := [.int (-1), .int q3.1]) (w' := q5) (g := []) (K := []) (by decide +kernel) rfl rfl rfl rfl jk0 ?_
      refine ev_icmp_ne (off := 4) (tgt := 64) (by decide +kernel) (by decide) (fun c21 => ?_) (fun c21 => ?_)
      · replace h := jneg c21 h
        refine ev_seg (o := 7) (nL := 4) (q := 67) (xs := [(.iload_n 2, 1, 2, 0, .null), (.bipush 32, 2, 0, 0, .int 32)]) (L' := [some (.ref 78), some (.int x1), some (.int q3.1), some (.int q4.1)]) (st' := [.int 32, .int q3.1]) (w' := q5) (g := []) (K := []) (by decide +kernel) rfl rfl rfl rfl jk0 ?_
        refine ev_icmp_eq (off := 9) (tgt := 76) (by decide +kernel) (by decide) (fun c20 => ?_) (fun c20 => ?_)
        · replace h := jpos c20 h
          refine ev_mask [true, true, false, true] ?_
          exact t_Tokens_split_j76 hG ih h
        · replace h := jneg c20 h
          refine ev_seg (o := 7) (nL := 4) (q := 73) (xs := [(.iload_n 2, 1, 2, 0, .null), (.bipush 10, 2, 0, 0, .int 10)]) (L' := [some (.ref 78), some (.int x1), some (.int q3.1), some (.int q4.1)]) (st' := [.int 10, .int q3.1]) (w' := q5) (g := []) (K := []) (by decide +kernel) rfl rfl rfl rfl jk0 ?_
          refine ev_icmp_ne (off := 24) (tgt := 97) (by decide +kernel) (by decide) (fun c19 => ?_) (fun c19 => ?_)
          · replace h := jneg c19 h
            refine ev_seg (o := 7) (nL := 4) (q := 98) (xs := [(.iload_n 2, 1, 2, 0, .null)]) (L' := [some (.ref 78), some (.int x1), some (.int q3.1), some (.int q4.1)]) (st' := [.int q3.1]) (w' := q5) (g := []) (K := []) (by decide +kernel) rfl rfl rfl rfl jk0 ?_
            obtain ⟨q8, hq8, h⟩ := jbe h
            refine ev_callS (y2 := y_Tokens_isLetter) (o := 7) (idx := 43) (d2 := d_Tokens_isLetter) (n := 1) (mc2 := 0) (ms2 := 0) (As := [.int q3.1]) (st := []) (res2 := (some (.int q8.1), jR0, q8.2)) (by decide +kernel) rfl lk_7_43 mo_Tokens_isLetter ms_Tokens_isLetter ⟨Nat.le_of_ble_eq_true rfl, Nat.le_of_ble_eq_true rfl⟩ rfl rfl (Nat.le_of_ble_eq_true rfl) ⟨Nat.le_refl _, Nat.le_refl _⟩ hG (e_Tokens_isLetter hG hq8) ?_
            refine ev_if_eq (off := 19) (tgt := 120) (by decide +kernel) (by decide) (fun c18 => ?_) (fun c18 => ?_)
            · replace h := jpos c18 h
              refine ev_seg (o := 7) (nL := 4) (q := 121) (xs := [(.iload_n 2, 1, 2, 0, .null)]) (L' := [some (.ref 78), some (.int x1), some (.int q3.1), some (.int q4.1)]) (st' := [.int q3.1]) (w' := q8.2) (g := []) (K := []) (by decide +kernel) rfl rfl rfl rfl jk0 ?_
              obtain ⟨q9, hq9, h⟩ := jbe h
              refine ev_callS (y2 := y_Tokens_isDigit) (o := 7) (idx := 51) (d2 := d_Tokens_isDigit) (n := 1) (mc2 := 0) (ms2 := 0) (As := [.int q3.1]) (st := []) (res2 := (some (.int q9.1), jR0, q9.2)) (by decide +kernel) rfl lk_7_51 mo_Tokens_isDigit ms_Tokens_isDigit ⟨Nat.le_of_ble_eq_true rfl, Nat.le_of_ble_eq_true rfl⟩ rfl rfl (Nat.le_of_ble_eq_true rfl) ⟨Nat.le_refl _, Nat.le_refl _⟩ hG (e_Tokens_isDigit hG hq9) ?_
              refine ev_if_eq (off := 30) (tgt := 154) (by decide +kernel) (by decide) (fun c15 => ?_) (fun c15 => ?_)
              · replace h := jpos c15 h
                refine ev_seg (o := 7) (nL := 4) (q := 162) (xs := [(.aload_n 0, 1, 0, 0, .null), (.getfield 20, 3, 7, 1, .ref 3), (.iload_n 3, 1, 3, 0, .null), (.iconst 0, 1, 0, 0, .int 0), (.aload_n 0, 1, 0, 0, .null), (.iload_n 2, 1, 2, 0, .null)]) (L' := [some (.ref 78), some (.int x1), some (.int q3.1), some (.int q4.1)]) (st' := [.int q3.1, .ref 78, .int 0, .int q4.1, .ref 81]) (w' := q9.2) (g := []) (K := [(81, 3), (78, 7)]) (by decide +kernel) rfl rfl rfl rfl (jk1 kz_81 (jk1 kz_78 jk0)) ?_
                obtain ⟨q10, hq10, h⟩ := jbe h
                refine ev_callV (ci := 7) (a := 78) (y2 := y_Tokens_takeSign) (o := 7) (idx := 57) (d2 := d_Tokens_takeSign) (n := 1) (mc2 := 0) (ms2 := 0) (As := [.int q3.1]) (st := [.int 0, .int q4.1, .ref 81]) (res2 := (some (.int q10.1), jR0, q10.2)) (by decide +kernel) rfl lk_7_57 mo_Tokens_takeSign mv_Tokens_takeSign ⟨Nat.le_of_ble_eq_true rfl, Nat.le_of_ble_eq_true rfl⟩ rfl rfl kz_78 (by decide) rfl (Nat.le_of_ble_eq_true rfl) ⟨Nat.le_refl _, Nat.le_refl _⟩ hG (e_Tokens_takeSign hG hq10) ?_
                obtain ⟨q11, hq11, h⟩ := jbe h
                refine ev_callV (ci := 3) (a := 81) (y2 := y_Rows_put) (o := 7) (idx := 39) (d2 := d_Rows_put) (n := 3) (mc2 := 0) (ms2 := 0) (As := [.int q4.1, .int 0, .int q10.1]) (st := []) (res2 := (none, jR0, q11)) (by decide +kernel) rfl lk_7_39 mo_Rows_put mv_Rows_put ⟨Nat.le_of_ble_eq_true rfl, Nat.le_of_ble_eq_true rfl⟩ rfl rfl kz_81 (by decide) rfl (Nat.le_of_ble_eq_true rfl) ⟨Nat.le_refl _, Nat.le_refl _⟩ hG (e_Rows_put hG kz_81 hq11) ?_
                refine ev_seg (o := 7) (nL := 4) (q := 15) (xs := [(.iinc 1 1, 3, 1, 0, .int 1), (.goto (-156), 3, 0, 0, .null)]) (L' := [some (.ref 78), some (.int (x1 + 1)), some (.int q3.1), some (.int q4.1)]) (st' := []) (w' := q11) (g := []) (K := []) (by decide +kernel) rfl rfl rfl rfl jk0 ?_
                refine ev_mask [true, true, false, false] ?_
                exact ih _ _ _ h
              · replace h := jneg c15 h
                refine ev_seg (o := 7) (nL := 4) (q := 135) (xs := [(.aload_n 0, 1, 0, 0, .null), (.getfield 20, 3, 7, 1, .ref 3), (.iload_n 3, 1, 3, 0, .null), (.iconst 0, 1, 0, 0, .int 0), (.bipush 27, 2, 0, 0, .int 27)]) (L' := [some (.ref 78), some (.int x1), some (.int q3.1), some (.int q4.1)]) (st' := [.int 27, .int 0, .int q4.1, .ref 81]) (w' := q9.2) (g := []) (K := [(81, 3), (78, 7)]) (by decide +kernel) rfl rfl rfl rfl (jk1 kz_81 (jk1 kz_78 jk0)) ?_
                obtain ⟨q12, hq12, h⟩ := jbe h
                refine ev_callV (ci := 3) (a := 81) (y2 := y_Rows_put) (o := 7) (idx := 39) (d2 := d_Rows_put) (n := 3) (mc2 := 0) (ms2 := 0) (As := [.int q4.1, .int 0, .int 27]) (st := []) (res2 := (none, jR0, q12)) (by decide +kernel) rfl lk_7_39 mo_Rows_put mv_Rows_put ⟨Nat.le_of_ble_eq_true rfl, Nat.le_of_ble_eq_true rfl⟩ rfl rfl kz_81 (by decide) rfl (Nat.le_of_ble_eq_true rfl) ⟨Nat.le_refl _, Nat.le_refl _⟩ hG (e_Rows_put hG kz_81 hq12) ?_
                refine ev_seg (o := 7) (nL := 4) (q := 145) (xs := [(.aload_n 0, 1, 0, 0, .null), (.getfield 20, 3, 7, 1, .ref 3), (.iload_n 3, 1, 3, 0, .null), (.iconst 2, 1, 0, 0, .int 2), (.aload_n 0, 1, 0, 0, .null)]) (L' := [some (.ref 78), some (.int x1), some (.int q3.1), some (.int q4.1)]) (st' := [.ref 78, .int 2, .int q4.1, .ref 81]) (w' := q12) (g := []) (K := [(81, 3), (78, 7)]) (by decide +kernel) rfl rfl rfl rfl (jk1 kz_81 (jk1 kz_78 jk0)) ?_
                obtain ⟨q13, hq13, h⟩ := jbe h
                refine ev_callV (ci := 7) (a := 78) (y2 := y_Tokens_takeNumber) (o := 7) (idx := 54) (d2 := d_Tokens_takeNumber) (n := 0) (mc2 := 0) (ms2 := 0) (As := []) (st := [.int 2, .int q4.1, .ref 81]) (res2 := (some (.int q13.1), jR0, q13.2)) (by decide +kernel) rfl lk_7_54 mo_Tokens_takeNumber mv_Tokens_takeNumber ⟨Nat.le_of_ble_eq_true rfl, Nat.le_of_ble_eq_true rfl⟩ rfl rfl kz_78 (by decide) rfl (Nat.le_of_ble_eq_true rfl) ⟨Nat.le_refl _, Nat.le_refl _⟩ hG (e_Tokens_takeNumber hG hq13) ?_
                obtain ⟨q14, hq14, h⟩ := jbe h
                refine ev_callV (ci := 3) (a := 81) (y2 := y_Rows_put) (o := 7) (idx := 39) (d2 := d_Rows_put) (n := 3) (mc2 := 0) (ms2 := 0) (As := [.int q4.1, .int 2, .int q13.1]) (st := []) (res2 := (none, jR0, q14)) (by decide +kernel) rfl lk_7_39 mo_Rows_put mv_Rows_put ⟨Nat.le_of_ble_eq_true rfl, Nat.le_of_ble_eq_true rfl⟩ rfl rfl kz_81 (by decide) rfl (Nat.le_of_ble_eq_true rfl) ⟨Nat.le_refl _, Nat.le_refl _⟩ hG (e_Rows_put hG kz_81 hq14) ?_
                refine ev_seg (o := 7) (nL := 4) (q := 15) (xs := [(.goto 17, 3, 0, 0, .null), (.iinc 1 1, 3, 1, 0, .int 1), (.goto (-156), 3, 0, 0, .null)]) (L' := [some (.ref 78), some (.int (x1 + 1)), some (.int q3.1), some (.int q4.1)]) (st' := []) (w' := q14) (g := []) (K := []) (by decide +kernel) rfl rfl rfl rfl jk0 ?_
                refine ev_mask [true, true, false, false] ?_
                exact ih _ _ _ h
            · replace h := jneg c18 h
              refine ev_seg (o := 7) (nL := 4) (q := 111) (xs := [(.aload_n 0, 1, 0, 0, .null), (.getfield 20, 3, 7, 1, .ref 3), (.iload_n 3, 1, 3, 0, .null), (.iconst 0, 1, 0, 0, .int 0), (.aload_n 0, 1, 0, 0, .null)]) (L' := [some (.ref 78), some (.int x1), some (.int q3.1), some (.int q4.1)]) (st' := [.ref 78, .int 0, .int q4.1, .ref 81]) (w' := q8.2) (g := []) (K := [(81, 3), (78, 7)]) (by decide +kernel) rfl rfl rfl rfl (jk1 kz_81 (jk1 kz_78 jk0)) ?_
              obtain ⟨q16, hq16, h⟩ := jbe h
              refine ev_callV (ci := 7) (a := 78) (y2 := y_Tokens_takeWord) (o := 7) (idx := 47) (d2 := D_Tokens_takeWord) (n := 0) (mc2 := 0) (ms2 := 0) (As := []) (st := [.int 0, .int q4.1, .ref 81]) (res2 := (some (.int q16.1), jR0, q16.2)) (by decide +kernel) rfl lk_7_47 mo_Tokens_takeWord mv_Tokens_takeWord ⟨Nat.le_of_ble_eq_true rfl, Nat.le_of_ble_eq_true rfl⟩ rfl rfl kz_78 (by decide) rfl (Nat.le_of_ble_eq_true rfl) ⟨Nat.le_refl _, Nat.le_refl _⟩ hG (e_Tokens_takeWord hG hq16) ?_
              obtain ⟨q17, hq17, h⟩ := jbe h
              refine ev_callV (ci := 3) (a := 81) (y2 := y_Rows_put) (o := 7) (idx := 39) (d2 := d_Rows_put) (n := 3) (mc2 := 0) (ms2 := 0) (As := [.int q4.1, .int 0, .int q16.1]) (st := []) (res2 := (none, jR0, q17)) (by decide +kernel) rfl lk_7_39 mo_Rows_put mv_Rows_put ⟨Nat.le_of_ble_eq_true rfl, Nat.le_of_ble_eq_true rfl⟩ rfl rfl kz_81 (by decide) rfl (Nat.le_of_ble_eq_true rfl) ⟨Nat.le_refl _, Nat.le_refl _⟩ hG (e_Rows_put hG kz_81 hq17) ?_
              refine ev_seg (o := 7) (nL := 4) (q := 15) (xs := [(.goto 51, 3, 0, 0, .null), (.iinc 1 1, 3, 1, 0, .int 1), (.goto (-156), 3, 0, 0, .null)]) (L' := [some (.ref 78), some (.int (x1 + 1)), some (.int q3.1), some (.int q4.1)]) (st' := []) (w' := q17) (g := []) (K := []) (by decide +kernel) rfl rfl rfl rfl jk0 ?_
              refine ev_mask [true, true, false, false] ?_
              exact ih _ _ _ h
          · replace h := jpos c19 h
            refine ev_mask [true, true, false, true] ?_
            exact t_Tokens_split_j76 hG ih h
      · replace h := jpos c21 h
        cases h
        exact ev_vret (by decide +kernel) rfl rfl rfl rfl
def f_Tokens_split (w : jW) : Option jW :=
  Option.bind (f_Rows_cut 81 0 w) fun q1 =>
  jlw ((jup q1.1 78 2 0), q1.2) fun w2 =>
  f_Tokens_split_h15 jfu 0 w2
set_option maxRecDepth 20000 in
theorem e_Tokens_split {l : Launch} {G : jG} (hG : jX G) {w : jW} {z : jW} (h : f_Tokens_split w = some z) : Ct l G y_Tokens_split D_Tokens_split 0 0 [.ref 78] jR0 w (none, jR0, z) := by
  rw [f_Tokens_split] at h
  refine Ct.of (L := [some (.ref 78), none, none, none]) (by decide) (Nat.le_of_ble_eq_true rfl) rfl ?_
  refine ev_seg (o := 7) (nL := 4) (q := 5) (xs := [(.aload_n 0, 1, 0, 0, .null), (.getfield 20, 3, 7, 1, .ref 3), (.iconst 0, 1, 0, 0, .int 0)]) (L' := [some (.ref 78), none, none, none]) (st' := [.int 0, .ref 81]) (w' := w) (g := []) (K := [(81, 3), (78, 7)]) (by decide +kernel) rfl rfl rfl rfl (jk1 kz_81 (jk1 kz_78 jk0)) ?_
  obtain ⟨q1, hq1, h⟩ := jbe h
  refine ev_callV (ci := 3) (a := 81) (y2 := y_Rows_cut) (o := 7) (idx := 31) (d2 := d_Rows_cut) (n := 1) (mc2 := 0) (ms2 := 0) (As := [.int 0]) (st := []) (res2 := (none, jR0, q1)) (by decide +kernel) rfl lk_7_31 mo_Rows_cut mv_Rows_cut ⟨Nat.le_of_ble_eq_true rfl, Nat.le_of_ble_eq_true rfl⟩ rfl rfl kz_81 (by decide) rfl (Nat.le_of_ble_eq_true rfl) ⟨Nat.le_refl _, Nat.le_refl _⟩ hG (e_Rows_cut hG kz_81 hq1) ?_
  refine ev_seg (o := 7) (nL := 4) (q := 13) (xs := [(.aload_n 0, 1, 0, 0, .null), (.iconst 0, 1, 0, 0, .int 0), (.putfield 23, 3, 7, 2, .int 0)]) (L' := [some (.ref 78), none, none, none]) (st' := []) (w' := ((jup q1.1 78 2 0), q1.2)) (g := []) (K := [(78, 7)]) (by decide +kernel) rfl rfl rfl rfl (jk1 kz_78 jk0) ?_
  refine jlw_c (P := fun w2 => Ev l G (jrm D_Tokens_split 0 0) y_Tokens_split (none, jR0, z) 0 0 0 0 13 [some (.ref 78), none, none, none] [] jR0 w2) h fun w2 h => ?_
  refine ev_seg (o := 7) (nL := 4) (q := 15) (xs := [(.iconst 0, 1, 0, 0, .int 0), (.istore_n 1, 1, 1, 0, .null)]) (L' := [some (.ref 78), some (.int 0), none, none]) (st' := []) (w' := w2) (g := []) (K := []) (by decide +kernel) rfl rfl rfl rfl jk0 ?_
  refine ev_mask [true, true, false, false] ?_
  exact t_Tokens_split_h15 hG jfu _ _ _ h
def f_Reader_single_j52 (rE : Int32 → jW → Option (Int32 × jW)) (rS : Int32 → jW → Option (Int32 × jW)) (x1 : Int32) (x2 : Int32) (w : jW) : Option (Int32 × jW) :=
  if x1 < 8 then
    jlw ((jup w.1 73 7 ((w.1 73 7) + 1)), w.2) fun w2 =>
    if x2 = 24 then
      Option.bind (rE (x1 + 1) w2) fun q5 =>
      if q5.1 = 0 then
        some (0, q5.2)
      else
        Option.bind (f_Reader_expect 25 q5.2) fun q6 =>
        if q6.1 = 0 then
          some (0, q6.2)
        else
          some (1, q6.2)
    else
      Option.bind (rS (x1 + 1) w2) fun q3 =>
      Option.bind (f_Rows_open 76 30012 q3.2) fun q4 =>
      if jbo q3.1 = true then some (q3.1, q4.2) else none
  else
    Option.bind (f_Reader_fail 3 w) fun q10 =>
    if jbo q10.1 = true then some (q10.1, q10.2) else none
set_option maxRecDepth 20000 in
theorem t_Reader_single_j52 {l : Launch} {G : jG} {m : Nat} (hG : jX G) {rE : Int32 → jW → Option (Int32 × jW)} {rS : Int32 → jW → Option (Int32 × jW)} (hrE : ∀ (x : Int32) (w : jW) (z : Int32 × jW), rE x w = some z → Ct l G y_Reader_either (m + 10) 0 0 [.ref 73, .int x] jR0 w (some (.int z.1), jR0, z.2)) (hrS : ∀ (x : Int32) (w : jW) (z : Int32 × jW), rS x w = some z → Ct l G y_Reader_single (m + 8) 0 0 [.ref 73, .int x] jR0 w (some (.int z.1), jR0, z.2)) {x1 : Int32} {x2 : Int32} {w : jW} {z : (Int32 × jW)} (h : f_Reader_single_j52 rE rS x1 x2 w = some z) : Ev l G (jrm (m + 11) 0 0) y_Reader_single (some (.int z.1), jR0, z.2) 0 0 0 0 52 [some (.ref 73), some (.int x1), some (.int x2), none] [] jR0 w := by
  rw [f_Reader_single_j52] at h
  refine ev_seg (o := 2) (nL := 4) (q := 55) (xs := [(.iload_n 1, 1, 1, 0, .null), (.bipush 8, 2, 0, 0, .int 8)]) (L' := [some (.ref 73), some (.int x1), some (.int x2), none]) (st' := [.int 8, .int x1]) (w' := w) (g := []) (K := []) (by decide +kernel) rfl rfl rfl rfl jk0 ?_
  refine ev_icmp_lt (off := 9) (tgt := 64) (by decide +kernel) (by decide) (fun c11 => ?_) (fun c11 => ?_)
  · replace h := jpos c11 h
    refine ev_seg (o := 2) (nL := 4) (q := 74) (xs := [(.aload_n 0, 1, 0, 0, .null), (.dup, 1, 0, 0, .null), (.getfield 45, 3, 2, 7, .int 0), (.iconst 1, 1, 0, 0, .int 1), (.iadd, 1, 0, 0, .null), (.putfield 45, 3, 2, 7, .int 0)]) (L' := [some (.ref 73), some (.int x1), some (.int x2), none]) (st' := []) (w' := ((jup w.1 73 7 ((w.1 73 7) + 1)), w.2)) (g := []) (K := [(73, 2), (73, 2)]) (by decide +kernel) rfl rfl rfl rfl (jk1 kz_73 (jk1 kz_73 jk0)) ?_
    refine jlw_c (P := fun w2 => Ev l G (jrm (m + 11) 0 0) y_Reader_single (some (.int z.1), jR0, z.2) 0 0 0 0 74 [some (.ref 73), some (.int x1), some (.int x2), none] [] jR0 w2) h fun w2 h => ?_
    refine ev_seg (o := 2) (nL := 4) (q := 77) (xs := [(.iload_n 2, 1, 2, 0, .null), (.bipush 24, 2, 0, 0, .int 24)]) (L' := [some (.ref 73), some (.int x1), some (.int x2), none]) (st' := [.int 24, .int x2]) (w' := w2) (g := []) (K := []) (by decide +kernel) rfl rfl rfl rfl jk0 ?_
    refine ev_icmp_ne (off := 28) (tgt := 105) (by decide +kernel) (by decide) (fun c9 => ?_) (fun c9 => ?_)
    · replace h := jneg c9 h
      refine ev_seg (o := 2) (nL := 4) (q := 109) (xs := [(.aload_n 0, 1, 0, 0, .null), (.iload_n 1, 1, 1, 0, .null), (.iconst 1, 1, 0, 0, .int 1), (.iadd, 1, 0, 0, .null)]) (L' := [some (.ref 73), some (.int x1), some (.int x2), none]) (st' := [.int (x1 + 1), .ref 73]) (w' := w2) (g := []) (K := []) (by decide +kernel) rfl rfl rfl rfl jk0 ?_
      obtain ⟨q3, hq3, h⟩ := jbe h
      refine ev_callV (ci := 2) (a := 73) (y2 := y_Reader_single) (o := 2) (idx := 91) (d2 := (m + 8)) (n := 1) (mc2 := 0) (ms2 := 0) (As := [.int (x1 + 1)]) (st := []) (res2 := (some (.int q3.1), jR0, q3.2)) (by decide +kernel) rfl lk_2_91 mo_Reader_single mv_Reader_single ⟨(show (m + 8) + 1 ≤ (m + 11) by omega), (show 8 + (4 + 11) + 64 * ((m + 8)) ≤ 64 * ((m + 11)) by omega)⟩ rfl rfl kz_73 (by decide) rfl (Nat.le_of_ble_eq_true rfl) ⟨Nat.le_refl _, Nat.le_refl _⟩ hG (hrS _ _ _ hq3) ?_
      refine ev_seg (o := 2) (nL := 4) (q := 120) (xs := [(.istore_n 3, 1, 3, 0, .null), (.aload_n 0, 1, 0, 0, .null), (.getfield 20, 3, 2, 1, .ref 3), (.sipush 30012, 3, 0, 0, .int 30012)]) (L' := [some (.ref 73), some (.int x1), some (.int x2), some (.int q3.1)]) (st' := [.int 30012, .ref 76]) (w' := q3.2) (g := []) (K := [(76, 3), (73, 2)]) (by decide +kernel) rfl rfl rfl rfl (jk1 kz_76 (jk1 kz_73 jk0)) ?_
      obtain ⟨q4, hq4, h⟩ := jbe h
      refine ev_callV (ci := 3) (a := 76) (y2 := y_Rows_open) (o := 2) (idx := 66) (d2 := d_Rows_open) (n := 1) (mc2 := 0) (ms2 := 0) (As := [.int 30012]) (st := []) (res2 := (some (.int q4.1), jR0, q4.2)) (by decide +kernel) rfl lk_2_66 mo_Rows_open mv_Rows_open ⟨(show 0 + 1 ≤ (m + 11) by omega), (show 8 + (4 + 11) + 64 * (0) ≤ 64 * ((m + 11)) by omega)⟩ rfl rfl kz_76 (by decide) rfl (Nat.le_of_ble_eq_true rfl) ⟨Nat.le_refl _, Nat.le_refl _⟩ hG (e_Rows_open hG kz_76 hq4) ?_
      refine ev_seg (o := 2) (nL := 4) (q := 125) (xs := [(.pop, 1, 0, 0, .null), (.iload_n 3, 1, 3, 0, .null)]) (L' := [some (.ref 73), some (.int x1), some (.int x2), some (.int q3.1)]) (st' := [.int q3.1]) (w' := q4.2) (g := []) (K := []) (by decide +kernel) rfl rfl rfl rfl jk0 ?_
      obtain ⟨hz, h⟩ := jgd h
      cases h
      exact ev_zret (by decide +kernel) rfl hz rfl rfl rfl
    · replace h := jpos c9 h
      refine ev_seg (o := 2) (nL := 4) (q := 84) (xs := [(.aload_n 0, 1, 0, 0, .null), (.iload_n 1, 1, 1, 0, .null), (.iconst 1, 1, 0, 0, .int 1), (.iadd, 1, 0, 0, .null)]) (L' := [some (.ref 73), some (.int x1), some (.int x2), none]) (st' := [.int (x1 + 1), .ref 73]) (w' := w2) (g := []) (K := []) (by decide +kernel) rfl rfl rfl rfl jk0 ?_
      obtain ⟨q5, hq5, h⟩ := jbe h
      refine ev_callV (ci := 2) (a := 73) (y2 := y_Reader_either) (o := 2) (idx := 85) (d2 := (m + 10)) (n := 1) (mc2 := 0) (ms2 := 0) (As := [.int (x1 + 1)]) (st := []) (res2 := (some (.int q5.1), jR0, q5.2)) (by decide +kernel) rfl lk_2_85 mo_Reader_either mv_Reader_either ⟨(show (m + 10) + 1 ≤ (m + 11) by omega), (show 8 + (3 + 11) + 64 * ((m + 10)) ≤ 64 * ((m + 11)) by omega)⟩ rfl rfl kz_73 (by decide) rfl (Nat.le_of_ble_eq_true rfl) ⟨Nat.le_refl _, Nat.le_refl _⟩ hG (hrE _ _ _ hq5) ?_
      refine ev_if_eq (off := 16) (tgt := 103) (by decide +kernel) (by decide) (fun c8 => ?_) (fun c8 => ?_)
      · replace h := jpos c8 h
        refine ev_seg (o := 2) (nL := 4) (q := 104) (xs := [(.iconst 0, 1, 0, 0, .int 0)]) (L' := [some (.ref 73), some (.int x1), some (.int x2), none]) (st' := [.int 0]) (w' := q5.2) (g := []) (K := []) (by decide +kernel) rfl rfl rfl rfl jk0 ?_
        cases h
        exact ev_zret (by decide +kernel) rfl rfl rfl rfl rfl
      · replace h := jneg c8 h
        refine ev_seg (o := 2) (nL := 4) (q := 93) (xs := [(.aload_n 0, 1, 0, 0, .null), (.bipush 25, 2, 0, 0, .int 25)]) (L' := [some (.ref 73), some (.int x1), some (.int x2), none]) (st' := [.int 25, .ref 73]) (w' := q5.2) (g := []) (K := []) (by decide +kernel) rfl rfl rfl rfl jk0 ?_
        obtain ⟨q6, hq6, h⟩ := jbe h
        refine ev_callV (ci := 2) (a := 73) (y2 := y_Reader_expect) (o := 2) (idx := 74) (d2 := d_Reader_expect) (n := 1) (mc2 := 0) (ms2 := 0) (As := [.int 25]) (st := []) (res2 := (some (.int q6.1), jR0, q6.2)) (by decide +kernel) rfl lk_2_74 mo_Reader_expect mv_Reader_expect ⟨(show 1 + 1 ≤ (m + 11) by omega), (show 8 + (2 + 11) + 64 * (1) ≤ 64 * ((m + 11)) by omega)⟩ rfl rfl kz_73 (by decide) rfl (Nat.le_of_ble_eq_true rfl) ⟨Nat.le_refl _, Nat.le_refl _⟩ hG (e_Reader_expect hG hq6) ?_
        refine ev_if_eq (off := 7) (tgt := 103) (by decide +kernel) (by decide) (fun c7 => ?_) (fun c7 => ?_)
        · replace h := jpos c7 h
          refine ev_seg (o := 2) (nL := 4) (q := 104) (xs := [(.iconst 0, 1, 0, 0, .int 0)]) (L' := [some (.ref 73), some (.int x1), some (.int x2), none]) (st' := [.int 0]) (w' := q6.2) (g := []) (K := []) (by decide +kernel) rfl rfl rfl rfl jk0 ?_
          cases h
          exact ev_zret (by decide +kernel) rfl rfl rfl rfl rfl
        · replace h := jneg c7 h
          refine ev_seg (o := 2) (nL := 4) (q := 104) (xs := [(.iconst 1, 1, 0, 0, .int 1), (.goto 4, 3, 0, 0, .null)]) (L' := [some (.ref 73), some (.int x1), some (.int x2), none]) (st' := [.int 1]) (w' := q6.2) (g := []) (K := []) (by decide +kernel) rfl rfl rfl rfl jk0 ?_
          cases h
          exact ev_zret (by decide +kernel) rfl rfl rfl rfl rfl
  · replace h := jneg c11 h
    refine ev_seg (o := 2) (nL := 4) (q := 60) (xs := [(.aload_n 0, 1, 0, 0, .null), (.iconst 3, 1, 0, 0, .int 3)]) (L' := [some (.ref 73), some (.int x1), some (.int x2), none]) (st' := [.int 3, .ref 73]) (w' := w) (g := []) (K := []) (by decide +kernel) rfl rfl rfl rfl jk0 ?_
    obtain ⟨q10, hq10, h⟩ := jbe h
    refine ev_callV (ci := 2) (a := 73) (y2 := y_Reader_fail) (o := 2) (idx := 63) (d2 := d_Reader_fail) (n := 1) (mc2 := 0) (ms2 := 0) (As := [.int 3]) (st := []) (res2 := (some (.int q10.1), jR0, q10.2)) (by decide +kernel) rfl lk_2_63 mo_Reader_fail mv_Reader_fail ⟨(show 0 + 1 ≤ (m + 11) by omega), (show 8 + (2 + 11) + 64 * (0) ≤ 64 * ((m + 11)) by omega)⟩ rfl rfl kz_73 (by decide) rfl (Nat.le_of_ble_eq_true rfl) ⟨Nat.le_refl _, Nat.le_refl _⟩ hG (e_Reader_fail hG hq10) ?_
    obtain ⟨hz, h⟩ := jgd h
    cases h
    exact ev_zret (by decide +kernel) rfl hz rfl rfl rfl
def f_Reader_single_r (rE : Int32 → jW → Option (Int32 × jW)) (rS : Int32 → jW → Option (Int32 × jW)) (x1 : Int32) (w : jW) : Option (Int32 × jW) :=
  Option.bind (f_Rows_at 81 (w.1 73 7) 0 w) fun q1 =>
  if q1.1 = 12 then
    f_Reader_single_j52 rE rS x1 q1.1 q1.2
  else
    if q1.1 = 24 then
      f_Reader_single_j52 rE rS x1 q1.1 q1.2
    else
      Option.bind (f_Reader_one q1.2) fun q12 =>
      if q12.1 = 0 then
        some (0, q12.2)
      else
        Option.bind (f_Reader_relation q12.2) fun q13 =>
        if q13.1 = 0 then
          some (0, q13.2)
        else
          Option.bind (f_Reader_one q13.2) fun q14 =>
          if q14.1 = 0 then
            some (0, q14.2)
          else
            some (1, q14.2)
set_option maxRecDepth 20000 in
theorem e_Reader_single_r {l : Launch} {G : jG} {m : Nat} (hG : jX G) {rE : Int32 → jW → Option (Int32 × jW)} {rS : Int32 → jW → Option (Int32 × jW)} (hrE : ∀ (x : Int32) (w : jW) (z : Int32 × jW), rE x w = some z → Ct l G y_Reader_either (m + 10) 0 0 [.ref 73, .int x] jR0 w (some (.int z.1), jR0, z.2)) (hrS : ∀ (x : Int32) (w : jW) (z : Int32 × jW), rS x w = some z → Ct l G y_Reader_single (m + 8) 0 0 [.ref 73, .int x] jR0 w (some (.int z.1), jR0, z.2)) {x1 : Int32} {w : jW} {z : (Int32 × jW)} (h : f_Reader_single_r rE rS x1 w = some z) : Ct l G y_Reader_single (m + 11) 0 0 [.ref 73, .int x1] jR0 w (some (.int z.1), jR0, z.2) := by
  rw [f_Reader_single_r] at h
  refine Ct.of (L := [some (.ref 73), some (.int x1), none, none]) (by decide) (Nat.le_of_ble_eq_true rfl) rfl ?_
  refine ev_seg (o := 2) (nL := 4) (q := 9) (xs := [(.aload_n 0, 1, 0, 0, .null), (.getfield 33, 3, 2, 6, .ref 3), (.aload_n 0, 1, 0, 0, .null), (.getfield 45, 3, 2, 7, .int 0), (.iconst 0, 1, 0, 0, .int 0)]) (L' := [some (.ref 73), some (.int x1), none, none]) (st' := [.int 0, .int (w.1 73 7), .ref 81]) (w' := w) (g := []) (K := [(73, 2), (81, 3), (73, 2)]) (by decide +kernel) rfl rfl rfl rfl (jk1 kz_73 (jk1 kz_81 (jk1 kz_73 jk0))) ?_
  obtain ⟨q1, hq1, h⟩ := jbe h
  refine ev_callV (ci := 3) (a := 81) (y2 := y_Rows_at) (o := 2) (idx := 55) (d2 := d_Rows_at) (n := 2) (mc2 := 0) (ms2 := 0) (As := [.int (w.1 73 7), .int 0]) (st := []) (res2 := (some (.int q1.1), jR0, q1.2)) (by decide +kernel) rfl lk_2_55 mo_Rows_at mv_Rows_at ⟨(show 0 + 1 ≤ (m + 11) by omega), (show 8 + (4 + 11) + 64 * (0) ≤ 64 * ((m + 11)) by omega)⟩ rfl rfl kz_81 (by decide) rfl (Nat.le_of_ble_eq_true rfl) ⟨Nat.le_refl _, Nat.le_refl _⟩ hG (e_Rows_at hG kz_81 hq1) ?_
  refine ev_seg (o := 2) (nL := 4) (q := 16) (xs := [(.istore_n 2, 1, 2, 0, .null), (.iload_n 2, 1, 2, 0, .null), (.bipush 12, 2, 0, 0, .int 12)]) (L' := [some (.ref 73), some (.int x1), some (.int q1.1), none]) (st' := [.int 12, .int q1.1]) (w' := q1.2) (g := []) (K := []) (by decide +kernel) rfl rfl rfl rfl jk0 ?_
  refine ev_icmp_eq (off := 36) (tgt := 52) (by decide +kernel) (by decide) (fun c19 => ?_) (fun c19 => ?_)
  · replace h := jpos c19 h
    refine ev_mask [true, true, true, false] ?_
    exact t_Reader_single_j52 hG hrE hrS h
  · replace h := jneg c19 h
    refine ev_seg (o := 2) (nL := 4) (q := 22) (xs := [(.iload_n 2, 1, 2, 0, .null), (.bipush 24, 2, 0, 0, .int 24)]) (L' := [some (.ref 73), some (.int x1), some (.int q1.1), none]) (st' := [.int 24, .int q1.1]) (w' := q1.2) (g := []) (K := []) (by decide +kernel) rfl rfl rfl rfl jk0 ?_
    refine ev_icmp_eq (off := 30) (tgt := 52) (by decide +kernel) (by decide) (fun c18 => ?_) (fun c18 => ?_)
    · replace h := jpos c18 h
      refine ev_mask [true, true, true, false] ?_
      exact t_Reader_single_j52 hG hrE hrS h
    · replace h := jneg c18 h
      refine ev_seg (o := 2) (nL := 4) (q := 26) (xs := [(.aload_n 0, 1, 0, 0, .null)]) (L' := [some (.ref 73), some (.int x1), some (.int q1.1), none]) (st' := [.ref 73]) (w' := q1.2) (g := []) (K := []) (by decide +kernel) rfl rfl rfl rfl jk0 ?_
      obtain ⟨q12, hq12, h⟩ := jbe h
      refine ev_callV (ci := 2) (a := 73) (y2 := y_Reader_one) (o := 2) (idx := 94) (d2 := d_Reader_one) (n := 0) (mc2 := 0) (ms2 := 0) (As := []) (st := []) (res2 := (some (.int q12.1), jR0, q12.2)) (by decide +kernel) rfl lk_2_94 mo_Reader_one mv_Reader_one ⟨(show 1 + 1 ≤ (m + 11) by omega), (show 8 + (3 + 11) + 64 * (1) ≤ 64 * ((m + 11)) by omega)⟩ rfl rfl kz_73 (by decide) rfl (Nat.le_of_ble_eq_true rfl) ⟨Nat.le_refl _, Nat.le_refl _⟩ hG (e_Reader_one hG hq12) ?_
      refine ev_if_eq (off := 21) (tgt := 50) (by decide +kernel) (by decide) (fun c17 => ?_) (fun c17 => ?_)
      · replace h := jpos c17 h
        refine ev_seg (o := 2) (nL := 4) (q := 51) (xs := [(.iconst 0, 1, 0, 0, .int 0)]) (L' := [some (.ref 73), some (.int x1), some (.int q1.1), none]) (st' := [.int 0]) (w' := q12.2) (g := []) (K := []) (by decide +kernel) rfl rfl rfl rfl jk0 ?_
        cases h
        exact ev_zret (by decide +kernel) rfl rfl rfl rfl rfl
      · replace h := jneg c17 h
        refine ev_seg (o := 2) (nL := 4) (q := 33) (xs := [(.aload_n 0, 1, 0, 0, .null)]) (L' := [some (.ref 73), some (.int x1), some (.int q1.1), none]) (st' := [.ref 73]) (w' := q12.2) (g := []) (K := []) (by decide +kernel) rfl rfl rfl rfl jk0 ?_
        obtain ⟨q13, hq13, h⟩ := jbe h
        refine ev_callV (ci := 2) (a := 73) (y2 := y_Reader_relation) (o := 2) (idx := 98) (d2 := d_Reader_relation) (n := 0) (mc2 := 0) (ms2 := 0) (As := []) (st := []) (res2 := (some (.int q13.1), jR0, q13.2)) (by decide +kernel) rfl lk_2_98 mo_Reader_relation mv_Reader_relation ⟨(show 1 + 1 ≤ (m + 11) by omega), (show 8 + (2 + 11) + 64 * (1) ≤ 64 * ((m + 11)) by omega)⟩ rfl rfl kz_73 (by decide) rfl (Nat.le_of_ble_eq_true rfl) ⟨Nat.le_refl _, Nat.le_refl _⟩ hG (e_Reader_relation hG hq13) ?_
        refine ev_if_eq (off := 14) (tgt := 50) (by decide +kernel) (by decide) (fun c16 => ?_) (fun c16 => ?_)
        · replace h := jpos c16 h
          refine ev_seg (o := 2) (nL := 4) (q := 51) (xs := [(.iconst 0, 1, 0, 0, .int 0)]) (L' := [some (.ref 73), some (.int x1), some (.int q1.1), none]) (st' := [.int 0]) (w' := q13.2) (g := []) (K := []) (by decide +kernel) rfl rfl rfl rfl jk0 ?_
          cases h
          exact ev_zret (by decide +kernel) rfl rfl rfl rfl rfl
        · replace h := jneg c16 h
          refine ev_seg (o := 2) (nL := 4) (q := 40) (xs := [(.aload_n 0, 1, 0, 0, .null)]) (L' := [some (.ref 73), some (.int x1), some (.int q1.1), none]) (st' := [.ref 73]) (w' := q13.2) (g := []) (K := []) (by decide +kernel) rfl rfl rfl rfl jk0 ?_
          obtain ⟨q14, hq14, h⟩ := jbe h
          refine ev_callV (ci := 2) (a := 73) (y2 := y_Reader_one) (o := 2) (idx := 94) (d2 := d_Reader_one) (n := 0) (mc2 := 0) (ms2 := 0) (As := []) (st := []) (res2 := (some (.int q14.1), jR0, q14.2)) (by decide +kernel) rfl lk_2_94 mo_Reader_one mv_Reader_one ⟨(show 1 + 1 ≤ (m + 11) by omega), (show 8 + (3 + 11) + 64 * (1) ≤ 64 * ((m + 11)) by omega)⟩ rfl rfl kz_73 (by decide) rfl (Nat.le_of_ble_eq_true rfl) ⟨Nat.le_refl _, Nat.le_refl _⟩ hG (e_Reader_one hG hq14) ?_
          refine ev_if_eq (off := 7) (tgt := 50) (by decide +kernel) (by decide) (fun c15 => ?_) (fun c15 => ?_)
          · replace h := jpos c15 h
            refine ev_seg (o := 2) (nL := 4) (q := 51) (xs := [(.iconst 0, 1, 0, 0, .int 0)]) (L' := [some (.ref 73), some (.int x1), some (.int q1.1), none]) (st' := [.int 0]) (w' := q14.2) (g := []) (K := []) (by decide +kernel) rfl rfl rfl rfl jk0 ?_
            cases h
            exact ev_zret (by decide +kernel) rfl rfl rfl rfl rfl
          · replace h := jneg c15 h
            refine ev_seg (o := 2) (nL := 4) (q := 51) (xs := [(.iconst 1, 1, 0, 0, .int 1), (.goto 4, 3, 0, 0, .null)]) (L' := [some (.ref 73), some (.int x1), some (.int q1.1), none]) (st' := [.int 1]) (w' := q14.2) (g := []) (K := []) (by decide +kernel) rfl rfl rfl rfl jk0 ?_
            cases h
            exact ev_zret (by decide +kernel) rfl rfl rfl rfl rfl
def f_Reader_both_h12 (rS : Int32 → jW → Option (Int32 × jW)) : Nat → Int32 → Int32 → jW → Option (Int32 × jW)
  | 0, _, _, _ => none
  | n + 1, x1, x2, w =>
  if x2 < 300 then
    Option.bind (f_Rows_at 81 (w.1 73 7) 0 w) fun q2 =>
    if q2.1 = 11 then
      jlw ((jup q2.2.1 73 7 ((q2.2.1 73 7) + 1)), q2.2.2) fun w3 =>
      Option.bind (rS x1 w3) fun q4 =>
      if q4.1 = 0 then
        some (0, q4.2)
      else
        Option.bind (f_Rows_open 76 30011 q4.2) fun q5 =>
        (f_Reader_both_h12 rS n) x1 (x2 + 1) q5.2
    else
      some (1, q2.2)
  else
    some (1, w)
set_option maxRecDepth 20000 in
theorem t_Reader_both_h12 {l : Launch} {G : jG} {m : Nat} (hG : jX G) {rS : Int32 → jW → Option (Int32 × jW)} (hrS : ∀ (x : Int32) (w : jW) (z : Int32 × jW), rS x w = some z → Ct l G y_Reader_single (m + 11) 0 0 [.ref 73, .int x] jR0 w (some (.int z.1), jR0, z.2)) : ∀ (n : Nat) (x1 : Int32) (x2 : Int32) (w : jW) (z : (Int32 × jW)), f_Reader_both_h12 rS n x1 x2 w = some z → Ev l G (jrm (m + 12) 0 0) y_Reader_both (some (.int z.1), jR0, z.2) 0 0 0 0 12 [some (.ref 73), some (.int x1), some (.int x2)] [] jR0 w := by
  intro n
  induction n with
  | zero => intro x1 x2 w z h; simp only [f_Reader_both_h12] at h; cases h
  | succ n ih =>
    intro x1 x2 w z h
    rw [f_Reader_both_h12] at h
    refine ev_seg (o := 2) (nL := 3) (q := 16) (xs := [(.iload_n 2, 1, 2, 0, .null), (.sipush 300, 3, 0, 0, .int 300)]) (L' := [some (.ref 73), some (.int x1), some (.int x2)]) (st' := [.int 300, .int x2]) (w' := w) (g := []) (K := []) (by decide +kernel) rfl rfl rfl rfl jk0 ?_
    refine ev_icmp_ge (off := 57) (tgt := 73) (by decide +kernel) (by decide) (fun c8 => ?_) (fun c8 => ?_)
    · replace h := jneg c8 h
      refine ev_seg (o := 2) (nL := 3) (q := 74) (xs := [(.iconst 1, 1, 0, 0, .int 1)]) (L' := [some (.ref 73), some (.int x1), some (.int x2)]) (st' := [.int 1]) (w' := w) (g := []) (K := []) (by decide +kernel) rfl rfl rfl rfl jk0 ?_
      cases h
      exact ev_zret (by decide +kernel) rfl rfl rfl rfl rfl
    · replace h := jpos c8 h
      refine ev_seg (o := 2) (nL := 3) (q := 28) (xs := [(.aload_n 0, 1, 0, 0, .null), (.getfield 33, 3, 2, 6, .ref 3), (.aload_n 0, 1, 0, 0, .null), (.getfield 45, 3, 2, 7, .int 0), (.iconst 0, 1, 0, 0, .int 0)]) (L' := [some (.ref 73), some (.int x1), some (.int x2)]) (st' := [.int 0, .int (w.1 73 7), .ref 81]) (w' := w) (g := []) (K := [(73, 2), (81, 3), (73, 2)]) (by decide +kernel) rfl rfl rfl rfl (jk1 kz_73 (jk1 kz_81 (jk1 kz_73 jk0))) ?_
      obtain ⟨q2, hq2, h⟩ := jbe h
      refine ev_callV (ci := 3) (a := 81) (y2 := y_Rows_at) (o := 2) (idx := 55) (d2 := d_Rows_at) (n := 2) (mc2 := 0) (ms2 := 0) (As := [.int (w.1 73 7), .int 0]) (st := []) (res2 := (some (.int q2.1), jR0, q2.2)) (by decide +kernel) rfl lk_2_55 mo_Rows_at mv_Rows_at ⟨(show 0 + 1 ≤ (m + 12) by omega), (show 8 + (4 + 11) + 64 * (0) ≤ 64 * ((m + 12)) by omega)⟩ rfl rfl kz_81 (by decide) rfl (Nat.le_of_ble_eq_true rfl) ⟨Nat.le_refl _, Nat.le_refl _⟩ hG (e_Rows_at hG kz_81 hq2) ?_
      refine ev_seg (o := 2) (nL := 3) (q := 33) (xs := [(.bipush 11, 2, 0, 0, .int 11)]) (L' := [some (.ref 73), some (.int x1), some (.int x2)]) (st' := [.int 11, .int q2.1]) (w' := q2.2) (g := []) (K := []) (by decide +kernel) rfl rfl rfl rfl jk0 ?_
      refine ev_icmp_ne (off := 40) (tgt := 73) (by decide +kernel) (by decide) (fun c7 => ?_) (fun c7 => ?_)
      · replace h := jneg c7 h
        refine ev_seg (o := 2) (nL := 3) (q := 74) (xs := [(.iconst 1, 1, 0, 0, .int 1)]) (L' := [some (.ref 73), some (.int x1), some (.int x2)]) (st' := [.int 1]) (w' := q2.2) (g := []) (K := []) (by decide +kernel) rfl rfl rfl rfl jk0 ?_
        cases h
        exact ev_zret (by decide +kernel) rfl rfl rfl rfl rfl
      · replace h := jpos c7 h
        refine ev_seg (o := 2) (nL := 3) (q := 46) (xs := [(.aload_n 0, 1, 0, 0, .null), (.dup, 1, 0, 0, .null), (.getfield 45, 3, 2, 7, .int 0), (.iconst 1, 1, 0, 0, .int 1), (.iadd, 1, 0, 0, .null), (.putfield 45, 3, 2, 7, .int 0)]) (L' := [some (.ref 73), some (.int x1), some (.int x2)]) (st' := []) (w' := ((jup q2.2.1 73 7 ((q2.2.1 73 7) + 1)), q2.2.2)) (g := []) (K := [(73, 2), (73, 2)]) (by decide +kernel) rfl rfl rfl rfl (jk1 kz_73 (jk1 kz_73 jk0)) ?_
        refine jlw_c (P := fun w3 => Ev l G (jrm (m + 12) 0 0) y_Reader_both (some (.int z.1), jR0, z.2) 0 0 0 0 46 [some (.ref 73), some (.int x1), some (.int x2)] [] jR0 w3) h fun w3 h => ?_
        refine ev_seg (o := 2) (nL := 3) (q := 48) (xs := [(.aload_n 0, 1, 0, 0, .null), (.iload_n 1, 1, 1, 0, .null)]) (L' := [some (.ref 73), some (.int x1), some (.int x2)]) (st' := [.int x1, .ref 73]) (w' := w3) (g := []) (K := []) (by decide +kernel) rfl rfl rfl rfl jk0 ?_
        obtain ⟨q4, hq4, h⟩ := jbe h
        refine ev_callV (ci := 2) (a := 73) (y2 := y_Reader_single) (o := 2) (idx := 91) (d2 := (m + 11)) (n := 1) (mc2 := 0) (ms2 := 0) (As := [.int x1]) (st := []) (res2 := (some (.int q4.1), jR0, q4.2)) (by decide +kernel) rfl lk_2_91 mo_Reader_single mv_Reader_single ⟨(show (m + 11) + 1 ≤ (m + 12) by omega), (show 8 + (4 + 11) + 64 * ((m + 11)) ≤ 64 * ((m + 12)) by omega)⟩ rfl rfl kz_73 (by decide) rfl (Nat.le_of_ble_eq_true rfl) ⟨Nat.le_refl _, Nat.le_refl _⟩ hG (hrS _ _ _ hq4) ?_
        refine ev_if_ne (off := 5) (tgt := 56) (by decide +kernel) (by decide) (fun c6 => ?_) (fun c6 => ?_)
        · replace h := jneg c6 h
          refine ev_seg (o := 2) (nL := 3) (q := 63) (xs := [(.aload_n 0, 1, 0, 0, .null), (.getfield 20, 3, 2, 1, .ref 3), (.sipush 30011, 3, 0, 0, .int 30011)]) (L' := [some (.ref 73), some (.int x1), some (.int x2)]) (st' := [.int 30011, .ref 76]) (w' := q4.2) (g := []) (K := [(76, 3), (73, 2)]) (by decide +kernel) rfl rfl rfl rfl (jk1 kz_76 (jk1 kz_73 jk0)) ?_
          obtain ⟨q5, hq5, h⟩ := jbe h
          refine ev_callV (ci := 3) (a := 76) (y2 := y_Rows_open) (o := 2) (idx := 66) (d2 := d_Rows_open) (n := 1) (mc2 := 0) (ms2 := 0) (As := [.int 30011]) (st := []) (res2 := (some (.int q5.1), jR0, q5.2)) (by decide +kernel) rfl lk_2_66 mo_Rows_open mv_Rows_open ⟨(show 0 + 1 ≤ (m + 12) by omega), (show 8 + (4 + 11) + 64 * (0) ≤ 64 * ((m + 12)) by omega)⟩ rfl rfl kz_76 (by decide) rfl (Nat.le_of_ble_eq_true rfl) ⟨Nat.le_refl _, Nat.le_refl _⟩ hG (e_Rows_open hG kz_76 hq5) ?_
          refine ev_seg (o := 2) (nL := 3) (q := 12) (xs := [(.pop, 1, 0, 0, .null), (.iinc 2 1, 3, 2, 0, .int 1), (.goto (-58), 3, 0, 0, .null)]) (L' := [some (.ref 73), some (.int x1), some (.int (x2 + 1))]) (st' := []) (w' := q5.2) (g := []) (K := []) (by decide +kernel) rfl rfl rfl rfl jk0 ?_
          refine ev_mask [true, true, true] ?_
          exact ih _ _ _ _ h
        · replace h := jpos c6 h
          refine ev_seg (o := 2) (nL := 3) (q := 55) (xs := [(.iconst 0, 1, 0, 0, .int 0)]) (L' := [some (.ref 73), some (.int x1), some (.int x2)]) (st' := [.int 0]) (w' := q4.2) (g := []) (K := []) (by decide +kernel) rfl rfl rfl rfl jk0 ?_
          cases h
          exact ev_zret (by decide +kernel) rfl rfl rfl rfl rfl
def f_Reader_both_r (rS : Int32 → jW → Option (Int32 × jW)) (x1 : Int32) (w : jW) : Option (Int32 × jW) :=
  Option.bind (rS x1 w) fun q1 =>
  if q1.1 = 0 then
    some (0, q1.2)
  else
    f_Reader_both_h12 rS jfu x1 0 q1.2
set_option maxRecDepth 20000 in
theorem e_Reader_both_r {l : Launch} {G : jG} {m : Nat} (hG : jX G) {rS : Int32 → jW → Option (Int32 × jW)} (hrS : ∀ (x : Int32) (w : jW) (z : Int32 × jW), rS x w = some z → Ct l G y_Reader_single (m + 11) 0 0 [.ref 73, .int x] jR0 w (some (.int z.1), jR0, z.2)) {x1 : Int32} {w : jW} {z : (Int32 × jW)} (h : f_Reader_both_r rS x1 w = some z) : Ct l G y_Reader_both (m + 12) 0 0 [.ref 73, .int x1] jR0 w (some (.int z.1), jR0, z.2) := by
  rw [f_Reader_both_r] at h
  refine Ct.of (L := [some (.ref 73), some (.int x1), none]) (by decide) (Nat.le_of_ble_eq_true rfl) rfl ?_
  refine ev_seg (o := 2) (nL := 3) (q := 2) (xs := [(.aload_n 0, 1, 0, 0, .null), (.iload_n 1, 1, 1, 0, .null)]) (L' := [some (.ref 73), some (.int x1), none]) (st' := [.int x1, .ref 73]) (w' := w) (g := []) (K := []) (by decide +kernel) rfl rfl rfl rfl jk0 ?_
  obtain ⟨q1, hq1, h⟩ := jbe h
  refine ev_callV (ci := 2) (a := 73) (y2 := y_Reader_single) (o := 2) (idx := 91) (d2 := (m + 11)) (n := 1) (mc2 := 0) (ms2 := 0) (As := [.int x1]) (st := []) (res2 := (some (.int q1.1), jR0, q1.2)) (by decide +kernel) rfl lk_2_91 mo_Reader_single mv_Reader_single ⟨(show (m + 11) + 1 ≤ (m + 12) by omega), (show 8 + (4 + 11) + 64 * ((m + 11)) ≤ 64 * ((m + 12)) by omega)⟩ rfl rfl kz_73 (by decide) rfl (Nat.le_of_ble_eq_true rfl) ⟨Nat.le_refl _, Nat.le_refl _⟩ hG (hrS _ _ _ hq1) ?_
  refine ev_if_ne (off := 5) (tgt := 10) (by decide +kernel) (by decide) (fun c9 => ?_) (fun c9 => ?_)
  · replace h := jneg c9 h
    refine ev_seg (o := 2) (nL := 3) (q := 12) (xs := [(.iconst 0, 1, 0, 0, .int 0), (.istore_n 2, 1, 2, 0, .null)]) (L' := [some (.ref 73), some (.int x1), some (.int 0)]) (st' := []) (w' := q1.2) (g := []) (K := []) (by decide +kernel) rfl rfl rfl rfl jk0 ?_
    refine ev_mask [true, true, true] ?_
    exact t_Reader_both_h12 hG hrS jfu _ _ _ _ h
  · replace h := jpos c9 h
    refine ev_seg (o := 2) (nL := 3) (q := 9) (xs := [(.iconst 0, 1, 0, 0, .int 0)]) (L' := [some (.ref 73), some (.int x1), none]) (st' := [.int 0]) (w' := q1.2) (g := []) (K := []) (by decide +kernel) rfl rfl rfl rfl jk0 ?_
    cases h
    exact ev_zret (by decide +kernel) rfl rfl rfl rfl rfl
def f_Reader_either_h12 (rB : Int32 → jW → Option (Int32 × jW)) : Nat → Int32 → Int32 → jW → Option (Int32 × jW)
  | 0, _, _, _ => none
  | n + 1, x1, x2, w =>
  if x2 < 300 then
    Option.bind (f_Rows_at 81 (w.1 73 7) 0 w) fun q2 =>
    if q2.1 = 10 then
      jlw ((jup q2.2.1 73 7 ((q2.2.1 73 7) + 1)), q2.2.2) fun w3 =>
      Option.bind (rB x1 w3) fun q4 =>
      if q4.1 = 0 then
        some (0, q4.2)
      else
        Option.bind (f_Rows_open 76 30010 q4.2) fun q5 =>
        (f_Reader_either_h12 rB n) x1 (x2 + 1) q5.2
    else
      some (1, q2.2)
  else
    some (1, w)
set_option maxRecDepth 20000 in
theorem t_Reader_either_h12 {l : Launch} {G : jG} {m : Nat} (hG : jX G) {rB : Int32 → jW → Option (Int32 × jW)} (hrB : ∀ (x : Int32) (w : jW) (z : Int32 × jW), rB x w = some z → Ct l G y_Reader_both (m + 12) 0 0 [.ref 73, .int x] jR0 w (some (.int z.1), jR0, z.2)) : ∀ (n : Nat) (x1 : Int32) (x2 : Int32) (w : jW) (z : (Int32 × jW)), f_Reader_either_h12 rB n x1 x2 w = some z → Ev l G (jrm (m + 13) 0 0) y_Reader_either (some (.int z.1), jR0, z.2) 0 0 0 0 12 [some (.ref 73), some (.int x1), some (.int x2)] [] jR0 w := by
  intro n
  induction n with
  | zero => intro x1 x2 w z h; simp only [f_Reader_either_h12] at h; cases h
  | succ n ih =>
    intro x1 x2 w z h
    rw [f_Reader_either_h12] at h
    refine ev_seg (o := 2) (nL := 3) (q := 16) (xs := [(.iload_n 2, 1, 2, 0, .null), (.sipush 300, 3, 0, 0, .int 300)]) (L' := [some (.ref 73), some (.int x1), some (.int x2)]) (st' := [.int 300, .int x2]) (w' := w) (g := []) (K := []) (by decide +kernel) rfl rfl rfl rfl jk0 ?_
    refine ev_icmp_ge (off := 57) (tgt := 73) (by decide +kernel) (by decide) (fun c8 => ?_) (fun c8 => ?_)
    · replace h := jneg c8 h
      refine ev_seg (o := 2) (nL := 3) (q := 74) (xs := [(.iconst 1, 1, 0, 0, .int 1)]) (L' := [some (.ref 73), some (.int x1), some (.int x2)]) (st' := [.int 1]) (w' := w) (g := []) (K := []) (by decide +kernel) rfl rfl rfl rfl jk0 ?_
      cases h
      exact ev_zret (by decide +kernel) rfl rfl rfl rfl rfl
    · replace h := jpos c8 h
      refine ev_seg (o := 2) (nL := 3) (q := 28) (xs := [(.aload_n 0, 1, 0, 0, .null), (.getfield 33, 3, 2, 6, .ref 3), (.aload_n 0, 1, 0, 0, .null), (.getfield 45, 3, 2, 7, .int 0), (.iconst 0, 1, 0, 0, .int 0)]) (L' := [some (.ref 73), some (.int x1), some (.int x2)]) (st' := [.int 0, .int (w.1 73 7), .ref 81]) (w' := w) (g := []) (K := [(73, 2), (81, 3), (73, 2)]) (by decide +kernel) rfl rfl rfl rfl (jk1 kz_73 (jk1 kz_81 (jk1 kz_73 jk0))) ?_
      obtain ⟨q2, hq2, h⟩ := jbe h
      refine ev_callV (ci := 3) (a := 81) (y2 := y_Rows_at) (o := 2) (idx := 55) (d2 := d_Rows_at) (n := 2) (mc2 := 0) (ms2 := 0) (As := [.int (w.1 73 7), .int 0]) (st := []) (res2 := (some (.int q2.1), jR0, q2.2)) (by decide +kernel) rfl lk_2_55 mo_Rows_at mv_Rows_at ⟨(show 0 + 1 ≤ (m + 13) by omega), (show 8 + (4 + 11) + 64 * (0) ≤ 64 * ((m + 13)) by omega)⟩ rfl rfl kz_81 (by decide) rfl (Nat.le_of_ble_eq_true rfl) ⟨Nat.le_refl _, Nat.le_refl _⟩ hG (e_Rows_at hG kz_81 hq2) ?_
      refine ev_seg (o := 2) (nL := 3) (q := 33) (xs := [(.bipush 10, 2, 0, 0, .int 10)]) (L' := [some (.ref 73), some (.int x1), some (.int x2)]) (st' := [.int 10, .int q2.1]) (w' := q2.2) (g := []) (K := []) (by decide +kernel) rfl rfl rfl rfl jk0 ?_
      refine ev_icmp_ne (off := 40) (tgt := 73) (by decide +kernel) (by decide) (fun c7 => ?_) (fun c7 => ?_)
      · replace h := jneg c7 h
        refine ev_seg (o := 2) (nL := 3) (q := 74) (xs := [(.iconst 1, 1, 0, 0, .int 1)]) (L' := [some (.ref 73), some (.int x1), some (.int x2)]) (st' := [.int 1]) (w' := q2.2) (g := []) (K := []) (by decide +kernel) rfl rfl rfl rfl jk0 ?_
        cases h
        exact ev_zret (by decide +kernel) rfl rfl rfl rfl rfl
      · replace h := jpos c7 h
        refine ev_seg (o := 2) (nL := 3) (q := 46) (xs := [(.aload_n 0, 1, 0, 0, .null), (.dup, 1, 0, 0, .null), (.getfield 45, 3, 2, 7, .int 0), (.iconst 1, 1, 0, 0, .int 1), (.iadd, 1, 0, 0, .null), (.putfield 45, 3, 2, 7, .int 0)]) (L' := [some (.ref 73), some (.int x1), some (.int x2)]) (st' := []) (w' := ((jup q2.2.1 73 7 ((q2.2.1 73 7) + 1)), q2.2.2)) (g := []) (K := [(73, 2), (73, 2)]) (by decide +kernel) rfl rfl rfl rfl (jk1 kz_73 (jk1 kz_73 jk0)) ?_
        refine jlw_c (P := fun w3 => Ev l G (jrm (m + 13) 0 0) y_Reader_either (some (.int z.1), jR0, z.2) 0 0 0 0 46 [some (.ref 73), some (.int x1), some (.int x2)] [] jR0 w3) h fun w3 h => ?_
        refine ev_seg (o := 2) (nL := 3) (q := 48) (xs := [(.aload_n 0, 1, 0, 0, .null), (.iload_n 1, 1, 1, 0, .null)]) (L' := [some (.ref 73), some (.int x1), some (.int x2)]) (st' := [.int x1, .ref 73]) (w' := w3) (g := []) (K := []) (by decide +kernel) rfl rfl rfl rfl jk0 ?_
        obtain ⟨q4, hq4, h⟩ := jbe h
        refine ev_callV (ci := 2) (a := 73) (y2 := y_Reader_both) (o := 2) (idx := 88) (d2 := (m + 12)) (n := 1) (mc2 := 0) (ms2 := 0) (As := [.int x1]) (st := []) (res2 := (some (.int q4.1), jR0, q4.2)) (by decide +kernel) rfl lk_2_88 mo_Reader_both mv_Reader_both ⟨(show (m + 12) + 1 ≤ (m + 13) by omega), (show 8 + (3 + 11) + 64 * ((m + 12)) ≤ 64 * ((m + 13)) by omega)⟩ rfl rfl kz_73 (by decide) rfl (Nat.le_of_ble_eq_true rfl) ⟨Nat.le_refl _, Nat.le_refl _⟩ hG (hrB _ _ _ hq4) ?_
        refine ev_if_ne (off := 5) (tgt := 56) (by decide +kernel) (by decide) (fun c6 => ?_) (fun c6 => ?_)
        · replace h := jneg c6 h
          refine ev_seg (o := 2) (nL := 3) (q := 63) (xs := [(.aload_n 0, 1, 0, 0, .null), (.getfield 20, 3, 2, 1, .ref 3), (.sipush 30010, 3, 0, 0, .int 30010)]) (L' := [some (.ref 73), some (.int x1), some (.int x2)]) (st' := [.int 30010, .ref 76]) (w' := q4.2) (g := []) (K := [(76, 3), (73, 2)]) (by decide +kernel) rfl rfl rfl rfl (jk1 kz_76 (jk1 kz_73 jk0)) ?_
          obtain ⟨q5, hq5, h⟩ := jbe h
          refine ev_callV (ci := 3) (a := 76) (y2 := y_Rows_open) (o := 2) (idx := 66) (d2 := d_Rows_open) (n := 1) (mc2 := 0) (ms2 := 0) (As := [.int 30010]) (st := []) (res2 := (some (.int q5.1), jR0, q5.2)) (by decide +kernel) rfl lk_2_66 mo_Rows_open mv_Rows_open ⟨(show 0 + 1 ≤ (m + 13) by omega), (show 8 + (4 + 11) + 64 * (0) ≤ 64 * ((m + 13)) by omega)⟩ rfl rfl kz_76 (by decide) rfl (Nat.le_of_ble_eq_true rfl) ⟨Nat.le_refl _, Nat.le_refl _⟩ hG (e_Rows_open hG kz_76 hq5) ?_
          refine ev_seg (o := 2) (nL := 3) (q := 12) (xs := [(.pop, 1, 0, 0, .null), (.iinc 2 1, 3, 2, 0, .int 1), (.goto (-58), 3, 0, 0, .null)]) (L' := [some (.ref 73), some (.int x1), some (.int (x2 + 1))]) (st' := []) (w' := q5.2) (g := []) (K := []) (by decide +kernel) rfl rfl rfl rfl jk0 ?_
          refine ev_mask [true, true, true] ?_
          exact ih _ _ _ _ h
        · replace h := jpos c6 h
          refine ev_seg (o := 2) (nL := 3) (q := 55) (xs := [(.iconst 0, 1, 0, 0, .int 0)]) (L' := [some (.ref 73), some (.int x1), some (.int x2)]) (st' := [.int 0]) (w' := q4.2) (g := []) (K := []) (by decide +kernel) rfl rfl rfl rfl jk0 ?_
          cases h
          exact ev_zret (by decide +kernel) rfl rfl rfl rfl rfl
def f_Reader_either_r (rB : Int32 → jW → Option (Int32 × jW)) (x1 : Int32) (w : jW) : Option (Int32 × jW) :=
  Option.bind (rB x1 w) fun q1 =>
  if q1.1 = 0 then
    some (0, q1.2)
  else
    f_Reader_either_h12 rB jfu x1 0 q1.2
set_option maxRecDepth 20000 in
theorem e_Reader_either_r {l : Launch} {G : jG} {m : Nat} (hG : jX G) {rB : Int32 → jW → Option (Int32 × jW)} (hrB : ∀ (x : Int32) (w : jW) (z : Int32 × jW), rB x w = some z → Ct l G y_Reader_both (m + 12) 0 0 [.ref 73, .int x] jR0 w (some (.int z.1), jR0, z.2)) {x1 : Int32} {w : jW} {z : (Int32 × jW)} (h : f_Reader_either_r rB x1 w = some z) : Ct l G y_Reader_either (m + 13) 0 0 [.ref 73, .int x1] jR0 w (some (.int z.1), jR0, z.2) := by
  rw [f_Reader_either_r] at h
  refine Ct.of (L := [some (.ref 73), some (.int x1), none]) (by decide) (Nat.le_of_ble_eq_true rfl) rfl ?_
  refine ev_seg (o := 2) (nL := 3) (q := 2) (xs := [(.aload_n 0, 1, 0, 0, .null), (.iload_n 1, 1, 1, 0, .null)]) (L' := [some (.ref 73), some (.int x1), none]) (st' := [.int x1, .ref 73]) (w' := w) (g := []) (K := []) (by decide +kernel) rfl rfl rfl rfl jk0 ?_
  obtain ⟨q1, hq1, h⟩ := jbe h
  refine ev_callV (ci := 2) (a := 73) (y2 := y_Reader_both) (o := 2) (idx := 88) (d2 := (m + 12)) (n := 1) (mc2 := 0) (ms2 := 0) (As := [.int x1]) (st := []) (res2 := (some (.int q1.1), jR0, q1.2)) (by decide +kernel) rfl lk_2_88 mo_Reader_both mv_Reader_both ⟨(show (m + 12) + 1 ≤ (m + 13) by omega), (show 8 + (3 + 11) + 64 * ((m + 12)) ≤ 64 * ((m + 13)) by omega)⟩ rfl rfl kz_73 (by decide) rfl (Nat.le_of_ble_eq_true rfl) ⟨Nat.le_refl _, Nat.le_refl _⟩ hG (hrB _ _ _ hq1) ?_
  refine ev_if_ne (off := 5) (tgt := 10) (by decide +kernel) (by decide) (fun c9 => ?_) (fun c9 => ?_)
  · replace h := jneg c9 h
    refine ev_seg (o := 2) (nL := 3) (q := 12) (xs := [(.iconst 0, 1, 0, 0, .int 0), (.istore_n 2, 1, 2, 0, .null)]) (L' := [some (.ref 73), some (.int x1), some (.int 0)]) (st' := []) (w' := q1.2) (g := []) (K := []) (by decide +kernel) rfl rfl rfl rfl jk0 ?_
    refine ev_mask [true, true, true] ?_
    exact t_Reader_either_h12 hG hrB jfu _ _ _ _ h
  · replace h := jpos c9 h
    refine ev_seg (o := 2) (nL := 3) (q := 9) (xs := [(.iconst 0, 1, 0, 0, .int 0)]) (L' := [some (.ref 73), some (.int x1), none]) (st' := [.int 0]) (w' := q1.2) (g := []) (K := []) (by decide +kernel) rfl rfl rfl rfl jk0 ?_
    cases h
    exact ev_zret (by decide +kernel) rfl rfl rfl rfl rfl
/-- the recursion: what can be said with n levels left (single, either) -/
def jrd : Nat → (Int32 → jW → Option (Int32 × jW)) × (Int32 → jW → Option (Int32 × jW))
  | 0 => (fun _ _ => none, fun _ _ => none)
  | n + 1 => (f_Reader_single_r (jrd n).2 (jrd n).1, f_Reader_either_r (f_Reader_both_r (f_Reader_single_r (jrd n).2 (jrd n).1)))
theorem jrd_ok {l : Launch} {G : jG} (hG : jX G) : ∀ (n : Nat), (∀ (x : Int32) (w : jW) (z : Int32 × jW), (jrd n).1 x w = some z → Ct l G y_Reader_single (3 * n + 8) 0 0 [.ref 73, .int x] jR0 w (some (.int z.1), jR0, z.2)) ∧ (∀ (x : Int32) (w : jW) (z : Int32 × jW), (jrd n).2 x w = some z → Ct l G y_Reader_either (3 * n + 10) 0 0 [.ref 73, .int x] jR0 w (some (.int z.1), jR0, z.2)) := by
  intro n
  induction n with
  | zero => exact ⟨fun x w z h => (by cases h), fun x w z h => (by cases h)⟩
  | succ n ih =>
    have hS : ∀ (x : Int32) (w : jW) (z : Int32 × jW), f_Reader_single_r (jrd n).2 (jrd n).1 x w = some z → Ct l G y_Reader_single (3 * n + 11) 0 0 [.ref 73, .int x] jR0 w (some (.int z.1), jR0, z.2) := fun x w z h => e_Reader_single_r (m := 3 * n) hG ih.2 ih.1 h
    have hB : ∀ (x : Int32) (w : jW) (z : Int32 × jW), f_Reader_both_r (f_Reader_single_r (jrd n).2 (jrd n).1) x w = some z → Ct l G y_Reader_both (3 * n + 12) 0 0 [.ref 73, .int x] jR0 w (some (.int z.1), jR0, z.2) := fun x w z h => e_Reader_both_r (m := 3 * n) hG hS h
    exact ⟨hS, fun x w z h => e_Reader_either_r (m := 3 * n) hG hB h⟩
def f_Reader_either (x : Int32) (w : jW) : Option (Int32 × jW) := (jrd 10).2 x w
theorem e_Reader_either {l : Launch} {G : jG} (hG : jX G) {x : Int32} {w : jW} {z : Int32 × jW} (h : f_Reader_either x w = some z) : Ct l G y_Reader_either D_Reader_either 0 0 [.ref 73, .int x] jR0 w (some (.int z.1), jR0, z.2) := (jrd_ok hG 10).2 x w z h
def f_Reader_clause_j23 (w : jW) : Option (Int32 × jW) :=
  Option.bind (f_Reader_fail 1 w) fun q2 =>
  if jbo q2.1 = true then some (q2.1, q2.2) else none
set_option maxRecDepth 20000 in
theorem t_Reader_clause_j23 {l : Launch} {G : jG} (hG : jX G) {w : jW} {z : (Int32 × jW)} (h : f_Reader_clause_j23 w = some z) : Ev l G (jrm D_Reader_clause 0 0) y_Reader_clause (some (.int z.1), jR0, z.2) 0 0 0 0 23 [some (.ref 73), none, none, none, none] [] jR0 w := by
  rw [f_Reader_clause_j23] at h
  refine ev_seg (o := 2) (nL := 5) (q := 25) (xs := [(.aload_n 0, 1, 0, 0, .null), (.iconst 1, 1, 0, 0, .int 1)]) (L' := [some (.ref 73), none, none, none, none]) (st' := [.int 1, .ref 73]) (w' := w) (g := []) (K := []) (by decide +kernel) rfl rfl rfl rfl jk0 ?_
  obtain ⟨q2, hq2, h⟩ := jbe h
  refine ev_callV (ci := 2) (a := 73) (y2 := y_Reader_fail) (o := 2) (idx := 63) (d2 := d_Reader_fail) (n := 1) (mc2 := 0) (ms2 := 0) (As := [.int 1]) (st := []) (res2 := (some (.int q2.1), jR0, q2.2)) (by decide +kernel) rfl lk_2_63 mo_Reader_fail mv_Reader_fail ⟨Nat.le_of_ble_eq_true rfl, Nat.le_of_ble_eq_true rfl⟩ rfl rfl kz_73 (by decide) rfl (Nat.le_of_ble_eq_true rfl) ⟨Nat.le_refl _, Nat.le_refl _⟩ hG (e_Reader_fail hG hq2) ?_
  obtain ⟨hz, h⟩ := jgd h
  cases h
  exact ev_zret (by decide +kernel) rfl hz rfl rfl rfl
def f_Reader_clause (x1 : Int32) (w : jW) : Option (Int32 × jW) :=
  Option.bind (f_Rows_at 81 (w.1 73 7) 0 w) fun q1 =>
  if q1.1 < 0 then
    f_Reader_clause_j23 q1.2
  else
    if q1.1 ≤ 6 then
      if x1 < 16 then
        jlw ((jup q1.2.1 73 7 ((q1.2.1 73 7) + 1)), q1.2.2) fun w3 =>
        Option.bind (f_Rows_open 74 q1.1 w3) fun q4 =>
        if q1.1 = 1 then
          Option.bind (f_Reader_among q4.1 1 0 99 q4.2) fun q14 =>
          if q14.1 = 0 then
            some (0, q14.2)
          else
            Option.bind (f_Reader_expect 7 q14.2) fun q15 =>
            if q15.1 = 0 then
              some (0, q15.2)
            else
              Option.bind (f_Reader_among q4.1 2 0 1999 q15.2) fun q16 =>
              if q16.1 = 0 then
                some (0, q16.2)
              else
                Option.bind (f_Reader_expect 8 q16.2) fun q17 =>
                if q17.1 = 0 then
                  some (0, q17.2)
                else
                  Option.bind (f_Rows_at 74 q4.1 2 q17.2) fun q18 =>
                  Option.bind (f_Reader_among q4.1 3 q18.1 1999 q18.2) fun q19 =>
                  if q19.1 = 0 then
                    some (0, q19.2)
                  else
                    Option.bind (f_Reader_expect 26 q19.2) fun q20 =>
                    if q20.1 = 0 then
                      some (0, q20.2)
                    else
                      some (1, q20.2)
        else
        if q1.1 = 2 then
          Option.bind (f_Reader_among q4.1 1 0 360 q4.2) fun q28 =>
          if q28.1 = 0 then
            some (0, q28.2)
          else
            Option.bind (f_Reader_expect 26 q28.2) fun q29 =>
            if q29.1 = 0 then
              some (0, q29.2)
            else
              some (1, q29.2)
        else
        if q1.1 = 3 then
          Option.bind (f_Reader_among q4.1 1 0 99 q4.2) fun q33 =>
          if q33.1 = 0 then
            some (0, q33.2)
          else
            Option.bind (f_Reader_expect 26 q33.2) fun q34 =>
            if q34.1 = 0 then
              some (0, q34.2)
            else
              some (1, q34.2)
        else
        if q1.1 = 4 then
          Option.bind (f_Rows_count 76 q4.2) fun q38 =>
          Option.bind (f_Rows_put 74 q4.1 1 q38.1 q38.2) fun q39 =>
          Option.bind (f_Reader_either 0 q39) fun q40 =>
          Option.bind (f_Rows_count 76 q40.2) fun q41 =>
          Option.bind (f_Rows_put 74 q4.1 2 q41.1 q41.2) fun q42 =>
          if q40.1 = 0 then
            some (0, q42)
          else
            Option.bind (f_Reader_expect 26 q42) fun q43 =>
            if q43.1 = 0 then
              some (0, q43.2)
            else
              some (1, q43.2)
        else
        if q1.1 = 5 then
          Option.bind (f_Reader_among q4.1 1 1 9 q4.2) fun q47 =>
          if q47.1 = 0 then
            some (0, q47.2)
          else
            Option.bind (f_Reader_expect 9 q47.2) fun q48 =>
            if q48.1 = 0 then
              some (0, q48.2)
            else
              Option.bind (f_Reader_among q4.1 2 0 99 q48.2) fun q49 =>
              if q49.1 = 0 then
                some (0, q49.2)
              else
                Option.bind (f_Reader_expect 26 q49.2) fun q50 =>
                if q50.1 = 0 then
                  some (0, q50.2)
                else
                  some (1, q50.2)
        else
        if q1.1 = 6 then
          Option.bind (f_Reader_among q4.1 1 0 360 q4.2) fun q56 =>
          if q56.1 = 0 then
            some (0, q56.2)
          else
            Option.bind (f_Reader_expect 26 q56.2) fun q57 =>
            if q57.1 = 0 then
              some (0, q57.2)
            else
              some (1, q57.2)
        else
          Option.bind (f_Rows_count 76 q4.2) fun q5 =>
          Option.bind (f_Rows_put 74 q4.1 1 q5.1 q5.2) fun q6 =>
          Option.bind (f_Reader_either 0 q6) fun q7 =>
          Option.bind (f_Rows_count 76 q7.2) fun q8 =>
          Option.bind (f_Rows_put 74 q4.1 2 q8.1 q8.2) fun q9 =>
          if q7.1 = 0 then
            some (0, q9)
          else
            Option.bind (f_Reader_expect 26 q9) fun q10 =>
            if q10.1 = 0 then
              some (0, q10.2)
            else
              some (1, q10.2)
      else
        Option.bind (f_Reader_fail 4 q1.2) fun q60 =>
        if jbo q60.1 = true then some (q60.1, q60.2) else none
    else
      f_Reader_clause_j23 q1.2
set_option maxRecDepth 20000 in
theorem e_Reader_clause {l : Launch} {G : jG} (hG : jX G) {x1 : Int32} {w : jW} {z : (Int32 × jW)} (h : f_Reader_clause x1 w = some z) : Ct l G y_Reader_clause D_Reader_clause 0 0 [.ref 73, .int x1] jR0 w (some (.int z.1), jR0, z.2) := by
  rw [f_Reader_clause] at h
  refine Ct.of (L := [some (.ref 73), some (.int x1), none, none, none]) (by decide) (Nat.le_of_ble_eq_true rfl) rfl ?_
  refine ev_seg (o := 2) (nL := 5) (q := 9) (xs := [(.aload_n 0, 1, 0, 0, .null), (.getfield 33, 3, 2, 6, .ref 3), (.aload_n 0, 1, 0, 0, .null), (.getfield 45, 3, 2, 7, .int 0), (.iconst 0, 1, 0, 0, .int 0)]) (L' := [some (.ref 73), some (.int x1), none, none, none]) (st' := [.int 0, .int (w.1 73 7), .ref 81]) (w' := w) (g := []) (K := [(73, 2), (81, 3), (73, 2)]) (by decide +kernel) rfl rfl rfl rfl (jk1 kz_73 (jk1 kz_81 (jk1 kz_73 jk0))) ?_
  obtain ⟨q1, hq1, h⟩ := jbe h
  refine ev_callV (ci := 3) (a := 81) (y2 := y_Rows_at) (o := 2) (idx := 55) (d2 := d_Rows_at) (n := 2) (mc2 := 0) (ms2 := 0) (As := [.int (w.1 73 7), .int 0]) (st := []) (res2 := (some (.int q1.1), jR0, q1.2)) (by decide +kernel) rfl lk_2_55 mo_Rows_at mv_Rows_at ⟨Nat.le_of_ble_eq_true rfl, Nat.le_of_ble_eq_true rfl⟩ rfl rfl kz_81 (by decide) rfl (Nat.le_of_ble_eq_true rfl) ⟨Nat.le_refl _, Nat.le_refl _⟩ hG (e_Rows_at hG kz_81 hq1) ?_
  refine ev_seg (o := 2) (nL := 5) (q := 14) (xs := [(.istore_n 2, 1, 2, 0, .null), (.iload_n 2, 1, 2, 0, .null)]) (L' := [some (.ref 73), some (.int x1), some (.int q1.1), none, none]) (st' := [.int q1.1]) (w' := q1.2) (g := []) (K := []) (by decide +kernel) rfl rfl rfl rfl jk0 ?_
  refine ev_if_lt (off := 9) (tgt := 23) (by decide +kernel) (by decide) (fun c63 => ?_) (fun c63 => ?_)
  · replace h := jpos c63 h
    refine ev_mask [true, false, false, false, false] ?_
    exact t_Reader_clause_j23 hG h
  · replace h := jneg c63 h
    refine ev_seg (o := 2) (nL := 5) (q := 20) (xs := [(.iload_n 2, 1, 2, 0, .null), (.bipush 6, 2, 0, 0, .int 6)]) (L' := [some (.ref 73), some (.int x1), some (.int q1.1), none, none]) (st' := [.int 6, .int q1.1]) (w' := q1.2) (g := []) (K := []) (by decide +kernel) rfl rfl rfl rfl jk0 ?_
    refine ev_icmp_le (off := 9) (tgt := 29) (by decide +kernel) (by decide) (fun c62 => ?_) (fun c62 => ?_)
    · replace h := jpos c62 h
      refine ev_seg (o := 2) (nL := 5) (q := 32) (xs := [(.iload_n 1, 1, 1, 0, .null), (.bipush 16, 2, 0, 0, .int 16)]) (L' := [some (.ref 73), some (.int x1), some (.int q1.1), none, none]) (st' := [.int 16, .int x1]) (w' := q1.2) (g := []) (K := []) (by decide +kernel) rfl rfl rfl rfl jk0 ?_
      refine ev_icmp_lt (off := 9) (tgt := 41) (by decide +kernel) (by decide) (fun c61 => ?_) (fun c61 => ?_)
      · replace h := jpos c61 h
        refine ev_seg (o := 2) (nL := 5) (q := 51) (xs := [(.aload_n 0, 1, 0, 0, .null), (.dup, 1, 0, 0, .null), (.getfield 45, 3, 2, 7, .int 0), (.iconst 1, 1, 0, 0, .int 1), (.iadd, 1, 0, 0, .null), (.putfield 45, 3, 2, 7, .int 0)]) (L' := [some (.ref 73), some (.int x1), some (.int q1.1), none, none]) (st' := []) (w' := ((jup q1.2.1 73 7 ((q1.2.1 73 7) + 1)), q1.2.2)) (g := []) (K := [(73, 2), (73, 2)]) (by decide +kernel) rfl rfl rfl rfl (jk1 kz_73 (jk1 kz_73 jk0)) ?_
        refine jlw_c (P := fun w3 => Ev l G (jrm D_Reader_clause 0 0) y_Reader_clause (some (.int z.1), jR0, z.2) 0 0 0 0 51 [some (.ref 73), some (.int x1), some (.int q1.1), none, none] [] jR0 w3) h fun w3 h => ?_
        refine ev_seg (o := 2) (nL := 5) (q := 56) (xs := [(.aload_n 0, 1, 0, 0, .null), (.getfield 14, 3, 2, 0, .ref 3), (.iload_n 2, 1, 2, 0, .null)]) (L' := [some (.ref 73), some (.int x1), some (.int q1.1), none, none]) (st' := [.int q1.1, .ref 74]) (w' := w3) (g := []) (K := [(74, 3), (73, 2)]) (by decide +kernel) rfl rfl rfl rfl (jk1 kz_74 (jk1 kz_73 jk0)) ?_
        obtain ⟨q4, hq4, h⟩ := jbe h
        refine ev_callV (ci := 3) (a := 74) (y2 := y_Rows_open) (o := 2) (idx := 66) (d2 := d_Rows_open) (n := 1) (mc2 := 0) (ms2 := 0) (As := [.int q1.1]) (st := []) (res2 := (some (.int q4.1), jR0, q4.2)) (by decide +kernel) rfl lk_2_66 mo_Rows_open mv_Rows_open ⟨Nat.le_of_ble_eq_true rfl, Nat.le_of_ble_eq_true rfl⟩ rfl rfl kz_74 (by decide) rfl (Nat.le_of_ble_eq_true rfl) ⟨Nat.le_refl _, Nat.le_refl _⟩ hG (e_Rows_open hG kz_74 hq4) ?_
        refine ev_seg (o := 2) (nL := 5) (q := 61) (xs := [(.istore_n 3, 1, 3, 0, .null), (.iload_n 2, 1, 2, 0, .null)]) (L' := [some (.ref 73), some (.int x1), some (.int q1.1), some (.int q4.1), none]) (st' := [.int q1.1]) (w' := q4.2) (g := []) (K := []) (by decide +kernel) rfl rfl rfl rfl jk0 ?_
        by_cases c13 : q1.1 = 1
        · replace h := jpos c13 h
          refine ev_tableIn (dflt := 221) (lo := 1) (hi := 6) (offs := #[39, 118, 146, 221, 173, 118]) (len := 39) (off := 39) (tgt := 100) (by decide +kernel) (by rw [c13]; decide) (by rw [c13]; decide) (by rw [c13]; decide) (by decide) ?_
          refine ev_seg (o := 2) (nL := 5) (q := 106) (xs := [(.aload_n 0, 1, 0, 0, .null), (.iload_n 3, 1, 3, 0, .null), (.iconst 1, 1, 0, 0, .int 1), (.iconst 0, 1, 0, 0, .int 0), (.bipush 99, 2, 0, 0, .int 99)]) (L' := [some (.ref 73), some (.int x1), some (.int q1.1), some (.int q4.1), none]) (st' := [.int 99, .int 0, .int 1, .int q4.1, .ref 73]) (w' := q4.2) (g := []) (K := []) (by decide +kernel) rfl rfl rfl rfl jk0 ?_
          obtain ⟨q14, hq14, h⟩ := jbe h
          refine ev_callV (ci := 2) (a := 73) (y2 := y_Reader_among) (o := 2) (idx := 70) (d2 := d_Reader_among) (n := 4) (mc2 := 0) (ms2 := 0) (As := [.int q4.1, .int 1, .int 0, .int 99]) (st := []) (res2 := (some (.int q14.1), jR0, q14.2)) (by decide +kernel) rfl lk_2_70 mo_Reader_among mv_Reader_among ⟨Nat.le_of_ble_eq_true rfl, Nat.le_of_ble_eq_true rfl⟩ rfl rfl kz_73 (by decide) rfl (Nat.le_of_ble_eq_true rfl) ⟨Nat.le_refl _, Nat.le_refl _⟩ hG (e_Reader_among hG hq14) ?_
          refine ev_if_eq (off := 68) (tgt := 177) (by decide +kernel) (by decide) (fun c26 => ?_) (fun c26 => ?_)
          · replace h := jpos c26 h
            refine ev_seg (o := 2) (nL := 5) (q := 178) (xs := [(.iconst 0, 1, 0, 0, .int 0)]) (L' := [some (.ref 73), some (.int x1), some (.int q1.1), some (.int q4.1), none]) (st' := [.int 0]) (w' := q14.2) (g := []) (K := []) (by decide +kernel) rfl rfl rfl rfl jk0 ?_
            cases h
            exact ev_zret (by decide +kernel) rfl rfl rfl rfl rfl
          · replace h := jneg c26 h
            refine ev_seg (o := 2) (nL := 5) (q := 115) (xs := [(.aload_n 0, 1, 0, 0, .null), (.bipush 7, 2, 0, 0, .int 7)]) (L' := [some (.ref 73), some (.int x1), some (.int q1.1), some (.int q4.1), none]) (st' := [.int 7, .ref 73]) (w' := q14.2) (g := []) (K := []) (by decide +kernel) rfl rfl rfl rfl jk0 ?_
            obtain ⟨q15, hq15, h⟩ := jbe h
            refine ev_callV (ci := 2) (a := 73) (y2 := y_Reader_expect) (o := 2) (idx := 74) (d2 := d_Reader_expect) (n := 1) (mc2 := 0) (ms2 := 0) (As := [.int 7]) (st := []) (res2 := (some (.int q15.1), jR0, q15.2)) (by decide +kernel) rfl lk_2_74 mo_Reader_expect mv_Reader_expect ⟨Nat.le_of_ble_eq_true rfl, Nat.le_of_ble_eq_true rfl⟩ rfl rfl kz_73 (by decide) rfl (Nat.le_of_ble_eq_true rfl) ⟨Nat.le_refl _, Nat.le_refl _⟩ hG (e_Reader_expect hG hq15) ?_
            refine ev_if_eq (off := 59) (tgt := 177) (by decide +kernel) (by decide) (fun c25 => ?_) (fun c25 => ?_)
            · replace h := jpos c25 h
              refine ev_seg (o := 2) (nL := 5) (q := 178) (xs := [(.iconst 0, 1, 0, 0, .int 0)]) (L' := [some (.ref 73), some (.int x1), some (.int q1.1), some (.int q4.1), none]) (st' := [.int 0]) (w' := q15.2) (g := []) (K := []) (by decide +kernel) rfl rfl rfl rfl jk0 ?_
              cases h
              exact ev_zret (by decide +kernel) rfl rfl rfl rfl rfl
            · replace h := jneg c25 h
              refine ev_seg (o := 2) (nL := 5) (q := 128) (xs := [(.aload_n 0, 1, 0, 0, .null), (.iload_n 3, 1, 3, 0, .null), (.iconst 2, 1, 0, 0, .int 2), (.iconst 0, 1, 0, 0, .int 0), (.sipush 1999, 3, 0, 0, .int 1999)]) (L' := [some (.ref 73), some (.int x1), some (.int q1.1), some (.int q4.1), none]) (st' := [.int 1999, .int 0, .int 2, .int q4.1, .ref 73]) (w' := q15.2) (g := []) (K := []) (by decide +kernel) rfl rfl rfl rfl jk0 ?_
              obtain ⟨q16, hq16, h⟩ := jbe h
              refine ev_callV (ci := 2) (a := 73) (y2 := y_Reader_among) (o := 2) (idx := 70) (d2 := d_Reader_among) (n := 4) (mc2 := 0) (ms2 := 0) (As := [.int q4.1, .int 2, .int 0, .int 1999]) (st := []) (res2 := (some (.int q16.1), jR0, q16.2)) (by decide +kernel) rfl lk_2_70 mo_Reader_among mv_Reader_among ⟨Nat.le_of_ble_eq_true rfl, Nat.le_of_ble_eq_true rfl⟩ rfl rfl kz_73 (by decide) rfl (Nat.le_of_ble_eq_true rfl) ⟨Nat.le_refl _, Nat.le_refl _⟩ hG (e_Reader_among hG hq16) ?_
              refine ev_if_eq (off := 46) (tgt := 177) (by decide +kernel) (by decide) (fun c24 => ?_) (fun c24 => ?_)
              · replace h := jpos c24 h
                refine ev_seg (o := 2) (nL := 5) (q := 178) (xs := [(.iconst 0, 1, 0, 0, .int 0)]) (L' := [some (.ref 73), some (.int x1), some (.int q1.1), some (.int q4.1), none]) (st' := [.int 0]) (w' := q16.2) (g := []) (K := []) (by decide +kernel) rfl rfl rfl rfl jk0 ?_
                cases h
                exact ev_zret (by decide +kernel) rfl rfl rfl rfl rfl
              · replace h := jneg c24 h
                refine ev_seg (o := 2) (nL := 5) (q := 137) (xs := [(.aload_n 0, 1, 0, 0, .null), (.bipush 8, 2, 0, 0, .int 8)]) (L' := [some (.ref 73), some (.int x1), some (.int q1.1), some (.int q4.1), none]) (st' := [.int 8, .ref 73]) (w' := q16.2) (g := []) (K := []) (by decide +kernel) rfl rfl rfl rfl jk0 ?_
                obtain ⟨q17, hq17, h⟩ := jbe h
                refine ev_callV (ci := 2) (a := 73) (y2 := y_Reader_expect) (o := 2) (idx := 74) (d2 := d_Reader_expect) (n := 1) (mc2 := 0) (ms2 := 0) (As := [.int 8]) (st := []) (res2 := (some (.int q17.1), jR0, q17.2)) (by decide +kernel) rfl lk_2_74 mo_Reader_expect mv_Reader_expect ⟨Nat.le_of_ble_eq_true rfl, Nat.le_of_ble_eq_true rfl⟩ rfl rfl kz_73 (by decide) rfl (Nat.le_of_ble_eq_true rfl) ⟨Nat.le_refl _, Nat.le_refl _⟩ hG (e_Reader_expect hG hq17) ?_
                refine ev_if_eq (off := 37) (tgt := 177) (by decide +kernel) (by decide) (fun c23 => ?_) (fun c23 => ?_)
                · replace h := jpos c23 h
                  refine ev_seg (o := 2) (nL := 5) (q := 178) (xs := [(.iconst 0, 1, 0, 0, .int 0)]) (L' := [some (.ref 73), some (.int x1), some (.int q1.1), some (.int q4.1), none]) (st' := [.int 0]) (w' := q17.2) (g := []) (K := []) (by decide +kernel) rfl rfl rfl rfl jk0 ?_
                  cases h
                  exact ev_zret (by decide +kernel) rfl rfl rfl rfl rfl
                · replace h := jneg c23 h
                  refine ev_seg (o := 2) (nL := 5) (q := 152) (xs := [(.aload_n 0, 1, 0, 0, .null), (.iload_n 3, 1, 3, 0, .null), (.iconst 3, 1, 0, 0, .int 3), (.aload_n 0, 1, 0, 0, .null), (.getfield 14, 3, 2, 0, .ref 3), (.iload_n 3, 1, 3, 0, .null), (.iconst 2, 1, 0, 0, .int 2)]) (L' := [some (.ref 73), some (.int x1), some (.int q1.1), some (.int q4.1), none]) (st' := [.int 2, .int q4.1, .ref 74, .int 3, .int q4.1, .ref 73]) (w' := q17.2) (g := []) (K := [(74, 3), (73, 2)]) (by decide +kernel) rfl rfl rfl rfl (jk1 kz_74 (jk1 kz_73 jk0)) ?_
                  obtain ⟨q18, hq18, h⟩ := jbe h
                  refine ev_callV (ci := 3) (a := 74) (y2 := y_Rows_at) (o := 2) (idx := 55) (d2 := d_Rows_at) (n := 2) (mc2 := 0) (ms2 := 0) (As := [.int q4.1, .int 2]) (st := [.int 3, .int q4.1, .ref 73]) (res2 := (some (.int q18.1), jR0, q18.2)) (by decide +kernel) rfl lk_2_55 mo_Rows_at mv_Rows_at ⟨Nat.le_of_ble_eq_true rfl, Nat.le_of_ble_eq_true rfl⟩ rfl rfl kz_74 (by decide) rfl (Nat.le_of_ble_eq_true rfl) ⟨Nat.le_refl _, Nat.le_refl _⟩ hG (e_Rows_at hG kz_74 hq18) ?_
                  refine ev_seg (o := 2) (nL := 5) (q := 158) (xs := [(.sipush 1999, 3, 0, 0, .int 1999)]) (L' := [some (.ref 73), some (.int x1), some (.int q1.1), some (.int q4.1), none]) (st' := [.int 1999, .int q18.1, .int 3, .int q4.1, .ref 73]) (w' := q18.2) (g := []) (K := []) (by decide +kernel) rfl rfl rfl rfl jk0 ?_
                  obtain ⟨q19, hq19, h⟩ := jbe h
                  refine ev_callV (ci := 2) (a := 73) (y2 := y_Reader_among) (o := 2) (idx := 70) (d2 := d_Reader_among) (n := 4) (mc2 := 0) (ms2 := 0) (As := [.int q4.1, .int 3, .int q18.1, .int 1999]) (st := []) (res2 := (some (.int q19.1), jR0, q19.2)) (by decide +kernel) rfl lk_2_70 mo_Reader_among mv_Reader_among ⟨Nat.le_of_ble_eq_true rfl, Nat.le_of_ble_eq_true rfl⟩ rfl rfl kz_73 (by decide) rfl (Nat.le_of_ble_eq_true rfl) ⟨Nat.le_refl _, Nat.le_refl _⟩ hG (e_Reader_among hG hq19) ?_
                  refine ev_if_eq (off := 16) (tgt := 177) (by decide +kernel) (by decide) (fun c22 => ?_) (fun c22 => ?_)
                  · replace h := jpos c22 h
                    refine ev_seg (o := 2) (nL := 5) (q := 178) (xs := [(.iconst 0, 1, 0, 0, .int 0)]) (L' := [some (.ref 73), some (.int x1), some (.int q1.1), some (.int q4.1), none]) (st' := [.int 0]) (w' := q19.2) (g := []) (K := []) (by decide +kernel) rfl rfl rfl rfl jk0 ?_
                    cases h
                    exact ev_zret (by decide +kernel) rfl rfl rfl rfl rfl
                  · replace h := jneg c22 h
                    refine ev_seg (o := 2) (nL := 5) (q := 167) (xs := [(.aload_n 0, 1, 0, 0, .null), (.bipush 26, 2, 0, 0, .int 26)]) (L' := [some (.ref 73), some (.int x1), some (.int q1.1), some (.int q4.1), none]) (st' := [.int 26, .ref 73]) (w' := q19.2) (g := []) (K := []) (by decide +kernel) rfl rfl rfl rfl jk0 ?_
                    obtain ⟨q20, hq20, h⟩ := jbe h
                    refine ev_callV (ci := 2) (a := 73) (y2 := y_Reader_expect) (o := 2) (idx := 74) (d2 := d_Reader_expect) (n := 1) (mc2 := 0) (ms2 := 0) (As := [.int 26]) (st := []) (res2 := (some (.int q20.1), jR0, q20.2)) (by decide +kernel) rfl lk_2_74 mo_Reader_expect mv_Reader_expect ⟨Nat.le_of_ble_eq_true rfl, Nat.le_of_ble_eq_true rfl⟩ rfl rfl kz_73 (by decide) rfl (Nat.le_of_ble_eq_true rfl) ⟨Nat.le_refl _, Nat.le_refl _⟩ hG (e_Reader_expect hG hq20) ?_
                    refine ev_if_eq (off := 7) (tgt := 177) (by decide +kernel) (by decide) (fun c21 => ?_) (fun c21 => ?_)
                    · replace h := jpos c21 h
                      refine ev_seg (o := 2) (nL := 5) (q := 178) (xs := [(.iconst 0, 1, 0, 0, .int 0)]) (L' := [some (.ref 73), some (.int x1), some (.int q1.1), some (.int q4.1), none]) (st' := [.int 0]) (w' := q20.2) (g := []) (K := []) (by decide +kernel) rfl rfl rfl rfl jk0 ?_
                      cases h
                      exact ev_zret (by decide +kernel) rfl rfl rfl rfl rfl
                    · replace h := jneg c21 h
                      refine ev_seg (o := 2) (nL := 5) (q := 178) (xs := [(.iconst 1, 1, 0, 0, .int 1), (.goto 4, 3, 0, 0, .null)]) (L' := [some (.ref 73), some (.int x1), some (.int q1.1), some (.int q4.1), none]) (st' := [.int 1]) (w' := q20.2) (g := []) (K := []) (by decide +kernel) rfl rfl rfl rfl jk0 ?_
                      cases h
                      exact ev_zret (by decide +kernel) rfl rfl rfl rfl rfl
        · replace h := jneg c13 h
          by_cases c27 : q1.1 = 2
          · replace h := jpos c27 h
            refine ev_tableIn (dflt := 221) (lo := 1) (hi := 6) (offs := #[39, 118, 146, 221, 173, 118]) (len := 39) (off := 118) (tgt := 179) (by decide +kernel) (by rw [c27]; decide) (by rw [c27]; decide) (by rw [c27]; decide) (by decide) ?_
            refine ev_seg (o := 2) (nL := 5) (q := 186) (xs := [(.aload_n 0, 1, 0, 0, .null), (.iload_n 3, 1, 3, 0, .null), (.iconst 1, 1, 0, 0, .int 1), (.iconst 0, 1, 0, 0, .int 0), (.sipush 360, 3, 0, 0, .int 360)]) (L' := [some (.ref 73), some (.int x1), some (.int q1.1), some (.int q4.1), none]) (st' := [.int 360, .int 0, .int 1, .int q4.1, .ref 73]) (w' := q4.2) (g := []) (K := []) (by decide +kernel) rfl rfl rfl rfl jk0 ?_
            obtain ⟨q28, hq28, h⟩ := jbe h
            refine ev_callV (ci := 2) (a := 73) (y2 := y_Reader_among) (o := 2) (idx := 70) (d2 := d_Reader_among) (n := 4) (mc2 := 0) (ms2 := 0) (As := [.int q4.1, .int 1, .int 0, .int 360]) (st := []) (res2 := (some (.int q28.1), jR0, q28.2)) (by decide +kernel) rfl lk_2_70 mo_Reader_among mv_Reader_among ⟨Nat.le_of_ble_eq_true rfl, Nat.le_of_ble_eq_true rfl⟩ rfl rfl kz_73 (by decide) rfl (Nat.le_of_ble_eq_true rfl) ⟨Nat.le_refl _, Nat.le_refl _⟩ hG (e_Reader_among hG hq28) ?_
            refine ev_if_eq (off := 16) (tgt := 205) (by decide +kernel) (by decide) (fun c31 => ?_) (fun c31 => ?_)
            · replace h := jpos c31 h
              refine ev_seg (o := 2) (nL := 5) (q := 206) (xs := [(.iconst 0, 1, 0, 0, .int 0)]) (L' := [some (.ref 73), some (.int x1), some (.int q1.1), some (.int q4.1), none]) (st' := [.int 0]) (w' := q28.2) (g := []) (K := []) (by decide +kernel) rfl rfl rfl rfl jk0 ?_
              cases h
              exact ev_zret (by decide +kernel) rfl rfl rfl rfl rfl
            · replace h := jneg c31 h
              refine ev_seg (o := 2) (nL := 5) (q := 195) (xs := [(.aload_n 0, 1, 0, 0, .null), (.bipush 26, 2, 0, 0, .int 26)]) (L' := [some (.ref 73), some (.int x1), some (.int q1.1), some (.int q4.1), none]) (st' := [.int 26, .ref 73]) (w' := q28.2) (g := []) (K := []) (by decide +kernel) rfl rfl rfl rfl jk0 ?_
              obtain ⟨q29, hq29, h⟩ := jbe h
              refine ev_callV (ci := 2) (a := 73) (y2 := y_Reader_expect) (o := 2) (idx := 74) (d2 := d_Reader_expect) (n := 1) (mc2 := 0) (ms2 := 0) (As := [.int 26]) (st := []) (res2 := (some (.int q29.1), jR0, q29.2)) (by decide +kernel) rfl lk_2_74 mo_Reader_expect mv_Reader_expect ⟨Nat.le_of_ble_eq_true rfl, Nat.le_of_ble_eq_true rfl⟩ rfl rfl kz_73 (by decide) rfl (Nat.le_of_ble_eq_true rfl) ⟨Nat.le_refl _, Nat.le_refl _⟩ hG (e_Reader_expect hG hq29) ?_
              refine ev_if_eq (off := 7) (tgt := 205) (by decide +kernel) (by decide) (fun c30 => ?_) (fun c30 => ?_)
              · replace h := jpos c30 h
                refine ev_seg (o := 2) (nL := 5) (q := 206) (xs := [(.iconst 0, 1, 0, 0, .int 0)]) (L' := [some (.ref 73), some (.int x1), some (.int q1.1), some (.int q4.1), none]) (st' := [.int 0]) (w' := q29.2) (g := []) (K := []) (by decide +kernel) rfl rfl rfl rfl jk0 ?_
                cases h
                exact ev_zret (by decide +kernel) rfl rfl rfl rfl rfl
              · replace h := jneg c30 h
                refine ev_seg (o := 2) (nL := 5) (q := 206) (xs := [(.iconst 1, 1, 0, 0, .int 1), (.goto 4, 3, 0, 0, .null)]) (L' := [some (.ref 73), some (.int x1), some (.int q1.1), some (.int q4.1), none]) (st' := [.int 1]) (w' := q29.2) (g := []) (K := []) (by decide +kernel) rfl rfl rfl rfl jk0 ?_
                cases h
                exact ev_zret (by decide +kernel) rfl rfl rfl rfl rfl
          · replace h := jneg c27 h
            by_cases c32 : q1.1 = 3
            · replace h := jpos c32 h
              refine ev_tableIn (dflt := 221) (lo := 1) (hi := 6) (offs := #[39, 118, 146, 221, 173, 118]) (len := 39) (off := 146) (tgt := 207) (by decide +kernel) (by rw [c32]; decide) (by rw [c32]; decide) (by rw [c32]; decide) (by decide) ?_
              refine ev_seg (o := 2) (nL := 5) (q := 213) (xs := [(.aload_n 0, 1, 0, 0, .null), (.iload_n 3, 1, 3, 0, .null), (.iconst 1, 1, 0, 0, .int 1), (.iconst 0, 1, 0, 0, .int 0), (.bipush 99, 2, 0, 0, .int 99)]) (L' := [some (.ref 73), some (.int x1), some (.int q1.1), some (.int q4.1), none]) (st' := [.int 99, .int 0, .int 1, .int q4.1, .ref 73]) (w' := q4.2) (g := []) (K := []) (by decide +kernel) rfl rfl rfl rfl jk0 ?_
              obtain ⟨q33, hq33, h⟩ := jbe h
              refine ev_callV (ci := 2) (a := 73) (y2 := y_Reader_among) (o := 2) (idx := 70) (d2 := d_Reader_among) (n := 4) (mc2 := 0) (ms2 := 0) (As := [.int q4.1, .int 1, .int 0, .int 99]) (st := []) (res2 := (some (.int q33.1), jR0, q33.2)) (by decide +kernel) rfl lk_2_70 mo_Reader_among mv_Reader_among ⟨Nat.le_of_ble_eq_true rfl, Nat.le_of_ble_eq_true rfl⟩ rfl rfl kz_73 (by decide) rfl (Nat.le_of_ble_eq_true rfl) ⟨Nat.le_refl _, Nat.le_refl _⟩ hG (e_Reader_among hG hq33) ?_
              refine ev_if_eq (off := 16) (tgt := 232) (by decide +kernel) (by decide) (fun c36 => ?_) (fun c36 => ?_)
              · replace h := jpos c36 h
                refine ev_seg (o := 2) (nL := 5) (q := 233) (xs := [(.iconst 0, 1, 0, 0, .int 0)]) (L' := [some (.ref 73), some (.int x1), some (.int q1.1), some (.int q4.1), none]) (st' := [.int 0]) (w' := q33.2) (g := []) (K := []) (by decide +kernel) rfl rfl rfl rfl jk0 ?_
                cases h
                exact ev_zret (by decide +kernel) rfl rfl rfl rfl rfl
              · replace h := jneg c36 h
                refine ev_seg (o := 2) (nL := 5) (q := 222) (xs := [(.aload_n 0, 1, 0, 0, .null), (.bipush 26, 2, 0, 0, .int 26)]) (L' := [some (.ref 73), some (.int x1), some (.int q1.1), some (.int q4.1), none]) (st' := [.int 26, .ref 73]) (w' := q33.2) (g := []) (K := []) (by decide +kernel) rfl rfl rfl rfl jk0 ?_
                obtain ⟨q34, hq34, h⟩ := jbe h
                refine ev_callV (ci := 2) (a := 73) (y2 := y_Reader_expect) (o := 2) (idx := 74) (d2 := d_Reader_expect) (n := 1) (mc2 := 0) (ms2 := 0) (As := [.int 26]) (st := []) (res2 := (some (.int q34.1), jR0, q34.2)) (by decide +kernel) rfl lk_2_74 mo_Reader_expect mv_Reader_expect ⟨Nat.le_of_ble_eq_true rfl, Nat.le_of_ble_eq_true rfl⟩ rfl rfl kz_73 (by decide) rfl (Nat.le_of_ble_eq_true rfl) ⟨Nat.le_refl _, Nat.le_refl _⟩ hG (e_Reader_expect hG hq34) ?_
                refine ev_if_eq (off := 7) (tgt := 232) (by decide +kernel) (by decide) (fun c35 => ?_) (fun c35 => ?_)
                · replace h := jpos c35 h
                  refine ev_seg (o := 2) (nL := 5) (q := 233) (xs := [(.iconst 0, 1, 0, 0, .int 0)]) (L' := [some (.ref 73), some (.int x1), some (.int q1.1), some (.int q4.1), none]) (st' := [.int 0]) (w' := q34.2) (g := []) (K := []) (by decide +kernel) rfl rfl rfl rfl jk0 ?_
                  cases h
                  exact ev_zret (by decide +kernel) rfl rfl rfl rfl rfl
                · replace h := jneg c35 h
                  refine ev_seg (o := 2) (nL := 5) (q := 233) (xs := [(.iconst 1, 1, 0, 0, .int 1), (.goto 4, 3, 0, 0, .null)]) (L' := [some (.ref 73), some (.int x1), some (.int q1.1), some (.int q4.1), none]) (st' := [.int 1]) (w' := q34.2) (g := []) (K := []) (by decide +kernel) rfl rfl rfl rfl jk0 ?_
                  cases h
                  exact ev_zret (by decide +kernel) rfl rfl rfl rfl rfl
            · replace h := jneg c32 h
              by_cases c37 : q1.1 = 4
              · replace h := jpos c37 h
                refine ev_tableIn (dflt := 221) (lo := 1) (hi := 6) (offs := #[39, 118, 146, 221, 173, 118]) (len := 39) (off := 221) (tgt := 282) (by decide +kernel) (by rw [c37]; decide) (by rw [c37]; decide) (by rw [c37]; decide) (by decide) ?_
                refine ev_seg (o := 2) (nL := 5) (q := 292) (xs := [(.aload_n 0, 1, 0, 0, .null), (.getfield 14, 3, 2, 0, .ref 3), (.iload_n 3, 1, 3, 0, .null), (.iconst 1, 1, 0, 0, .int 1), (.aload_n 0, 1, 0, 0, .null), (.getfield 20, 3, 2, 1, .ref 3)]) (L' := [some (.ref 73), some (.int x1), some (.int q1.1), some (.int q4.1), none]) (st' := [.ref 76, .int 1, .int q4.1, .ref 74]) (w' := q4.2) (g := []) (K := [(76, 3), (73, 2), (74, 3), (73, 2)]) (by decide +kernel) rfl rfl rfl rfl (jk1 kz_76 (jk1 kz_73 (jk1 kz_74 (jk1 kz_73 jk0)))) ?_
                obtain ⟨q38, hq38, h⟩ := jbe h
                refine ev_callV (ci := 3) (a := 76) (y2 := y_Rows_count) (o := 2) (idx := 77) (d2 := d_Rows_count) (n := 0) (mc2 := 0) (ms2 := 0) (As := []) (st := [.int 1, .int q4.1, .ref 74]) (res2 := (some (.int q38.1), jR0, q38.2)) (by decide +kernel) rfl lk_2_77 mo_Rows_count mv_Rows_count ⟨Nat.le_of_ble_eq_true rfl, Nat.le_of_ble_eq_true rfl⟩ rfl rfl kz_76 (by decide) rfl (Nat.le_of_ble_eq_true rfl) ⟨Nat.le_refl _, Nat.le_refl _⟩ hG (e_Rows_count hG kz_76 hq38) ?_
                obtain ⟨q39, hq39, h⟩ := jbe h
                refine ev_callV (ci := 3) (a := 74) (y2 := y_Rows_put) (o := 2) (idx := 81) (d2 := d_Rows_put) (n := 3) (mc2 := 0) (ms2 := 0) (As := [.int q4.1, .int 1, .int q38.1]) (st := []) (res2 := (none, jR0, q39)) (by decide +kernel) rfl lk_2_81 mo_Rows_put mv_Rows_put ⟨Nat.le_of_ble_eq_true rfl, Nat.le_of_ble_eq_true rfl⟩ rfl rfl kz_74 (by decide) rfl (Nat.le_of_ble_eq_true rfl) ⟨Nat.le_refl _, Nat.le_refl _⟩ hG (e_Rows_put hG kz_74 hq39) ?_
                refine ev_seg (o := 2) (nL := 5) (q := 300) (xs := [(.aload_n 0, 1, 0, 0, .null), (.iconst 0, 1, 0, 0, .int 0)]) (L' := [some (.ref 73), some (.int x1), some (.int q1.1), some (.int q4.1), none]) (st' := [.int 0, .ref 73]) (w' := q39) (g := []) (K := []) (by decide +kernel) rfl rfl rfl rfl jk0 ?_
                obtain ⟨q40, hq40, h⟩ := jbe h
                refine ev_callV (ci := 2) (a := 73) (y2 := y_Reader_either) (o := 2) (idx := 85) (d2 := D_Reader_either) (n := 1) (mc2 := 0) (ms2 := 0) (As := [.int 0]) (st := []) (res2 := (some (.int q40.1), jR0, q40.2)) (by decide +kernel) rfl lk_2_85 mo_Reader_either mv_Reader_either ⟨Nat.le_of_ble_eq_true rfl, Nat.le_of_ble_eq_true rfl⟩ rfl rfl kz_73 (by decide) rfl (Nat.le_of_ble_eq_true rfl) ⟨Nat.le_refl _, Nat.le_refl _⟩ hG (e_Reader_either hG hq40) ?_
                refine ev_seg (o := 2) (nL := 5) (q := 315) (xs := [(.istore 4, 2, 4, 0, .null), (.aload_n 0, 1, 0, 0, .null), (.getfield 14, 3, 2, 0, .ref 3), (.iload_n 3, 1, 3, 0, .null), (.iconst 2, 1, 0, 0, .int 2), (.aload_n 0, 1, 0, 0, .null), (.getfield 20, 3, 2, 1, .ref 3)]) (L' := [some (.ref 73), some (.int x1), some (.int q1.1), some (.int q4.1), some (.int q40.1)]) (st' := [.ref 76, .int 2, .int q4.1, .ref 74]) (w' := q40.2) (g := []) (K := [(76, 3), (73, 2), (74, 3), (73, 2)]) (by decide +kernel) rfl rfl rfl rfl (jk1 kz_76 (jk1 kz_73 (jk1 kz_74 (jk1 kz_73 jk0)))) ?_
                obtain ⟨q41, hq41, h⟩ := jbe h
                refine ev_callV (ci := 3) (a := 76) (y2 := y_Rows_count) (o := 2) (idx := 77) (d2 := d_Rows_count) (n := 0) (mc2 := 0) (ms2 := 0) (As := []) (st := [.int 2, .int q4.1, .ref 74]) (res2 := (some (.int q41.1), jR0, q41.2)) (by decide +kernel) rfl lk_2_77 mo_Rows_count mv_Rows_count ⟨Nat.le_of_ble_eq_true rfl, Nat.le_of_ble_eq_true rfl⟩ rfl rfl kz_76 (by decide) rfl (Nat.le_of_ble_eq_true rfl) ⟨Nat.le_refl _, Nat.le_refl _⟩ hG (e_Rows_count hG kz_76 hq41) ?_
                obtain ⟨q42, hq42, h⟩ := jbe h
                refine ev_callV (ci := 3) (a := 74) (y2 := y_Rows_put) (o := 2) (idx := 81) (d2 := d_Rows_put) (n := 3) (mc2 := 0) (ms2 := 0) (As := [.int q4.1, .int 2, .int q41.1]) (st := []) (res2 := (none, jR0, q42)) (by decide +kernel) rfl lk_2_81 mo_Rows_put mv_Rows_put ⟨Nat.le_of_ble_eq_true rfl, Nat.le_of_ble_eq_true rfl⟩ rfl rfl kz_74 (by decide) rfl (Nat.le_of_ble_eq_true rfl) ⟨Nat.le_refl _, Nat.le_refl _⟩ hG (e_Rows_put hG kz_74 hq42) ?_
                refine ev_seg (o := 2) (nL := 5) (q := 323) (xs := [(.iload 4, 2, 4, 0, .null)]) (L' := [some (.ref 73), some (.int x1), some (.int q1.1), some (.int q4.1), some (.int q40.1)]) (st' := [.int q40.1]) (w' := q42) (g := []) (K := []) (by decide +kernel) rfl rfl rfl rfl jk0 ?_
                refine ev_if_eq (off := 16) (tgt := 339) (by decide +kernel) (by decide) (fun c45 => ?_) (fun c45 => ?_)
                · replace h := jpos c45 h
                  refine ev_seg (o := 2) (nL := 5) (q := 340) (xs := [(.iconst 0, 1, 0, 0, .int 0)]) (L' := [some (.ref 73), some (.int x1), some (.int q1.1), some (.int q4.1), some (.int q40.1)]) (st' := [.int 0]) (w' := q42) (g := []) (K := []) (by decide +kernel) rfl rfl rfl rfl jk0 ?_
                  cases h
                  exact ev_zret (by decide +kernel) rfl rfl rfl rfl rfl
                · replace h := jneg c45 h
                  refine ev_seg (o := 2) (nL := 5) (q := 329) (xs := [(.aload_n 0, 1, 0, 0, .null), (.bipush 26, 2, 0, 0, .int 26)]) (L' := [some (.ref 73), some (.int x1), some (.int q1.1), some (.int q4.1), some (.int q40.1)]) (st' := [.int 26, .ref 73]) (w' := q42) (g := []) (K := []) (by decide +kernel) rfl rfl rfl rfl jk0 ?_
                  obtain ⟨q43, hq43, h⟩ := jbe h
                  refine ev_callV (ci := 2) (a := 73) (y2 := y_Reader_expect) (o := 2) (idx := 74) (d2 := d_Reader_expect) (n := 1) (mc2 := 0) (ms2 := 0) (As := [.int 26]) (st := []) (res2 := (some (.int q43.1), jR0, q43.2)) (by decide +kernel) rfl lk_2_74 mo_Reader_expect mv_Reader_expect ⟨Nat.le_of_ble_eq_true rfl, Nat.le_of_ble_eq_true rfl⟩ rfl rfl kz_73 (by decide) rfl (Nat.le_of_ble_eq_true rfl) ⟨Nat.le_refl _, Nat.le_refl _⟩ hG (e_Reader_expect hG hq43) ?_
                  refine ev_if_eq (off := 7) (tgt := 339) (by decide +kernel) (by decide) (fun c44 => ?_) (fun c44 => ?_)
                  · replace h := jpos c44 h
                    refine ev_seg (o := 2) (nL := 5) (q := 340) (xs := [(.iconst 0, 1, 0, 0, .int 0)]) (L' := [some (.ref 73), some (.int x1), some (.int q1.1), some (.int q4.1), some (.int q40.1)]) (st' := [.int 0]) (w' := q43.2) (g := []) (K := []) (by decide +kernel) rfl rfl rfl rfl jk0 ?_
                    cases h
                    exact ev_zret (by decide +kernel) rfl rfl rfl rfl rfl
                  · replace h := jneg c44 h
                    refine ev_seg (o := 2) (nL := 5) (q := 340) (xs := [(.iconst 1, 1, 0, 0, .int 1), (.goto 4, 3, 0, 0, .null)]) (L' := [some (.ref 73), some (.int x1), some (.int q1.1), some (.int q4.1), some (.int q40.1)]) (st' := [.int 1]) (w' := q43.2) (g := []) (K := []) (by decide +kernel) rfl rfl rfl rfl jk0 ?_
                    cases h
                    exact ev_zret (by decide +kernel) rfl rfl rfl rfl rfl
              · replace h := jneg c37 h
                by_cases c46 : q1.1 = 5
                · replace h := jpos c46 h
                  refine ev_tableIn (dflt := 221) (lo := 1) (hi := 6) (offs := #[39, 118, 146, 221, 173, 118]) (len := 39) (off := 173) (tgt := 234) (by decide +kernel) (by rw [c46]; decide) (by rw [c46]; decide) (by rw [c46]; decide) (by decide) ?_
                  refine ev_seg (o := 2) (nL := 5) (q := 240) (xs := [(.aload_n 0, 1, 0, 0, .null), (.iload_n 3, 1, 3, 0, .null), (.iconst 1, 1, 0, 0, .int 1), (.iconst 1, 1, 0, 0, .int 1), (.bipush 9, 2, 0, 0, .int 9)]) (L' := [some (.ref 73), some (.int x1), some (.int q1.1), some (.int q4.1), none]) (st' := [.int 9, .int 1, .int 1, .int q4.1, .ref 73]) (w' := q4.2) (g := []) (K := []) (by decide +kernel) rfl rfl rfl rfl jk0 ?_
                  obtain ⟨q47, hq47, h⟩ := jbe h
                  refine ev_callV (ci := 2) (a := 73) (y2 := y_Reader_among) (o := 2) (idx := 70) (d2 := d_Reader_among) (n := 4) (mc2 := 0) (ms2 := 0) (As := [.int q4.1, .int 1, .int 1, .int 9]) (st := []) (res2 := (some (.int q47.1), jR0, q47.2)) (by decide +kernel) rfl lk_2_70 mo_Reader_among mv_Reader_among ⟨Nat.le_of_ble_eq_true rfl, Nat.le_of_ble_eq_true rfl⟩ rfl rfl kz_73 (by decide) rfl (Nat.le_of_ble_eq_true rfl) ⟨Nat.le_refl _, Nat.le_refl _⟩ hG (e_Reader_among hG hq47) ?_
                  refine ev_if_eq (off := 37) (tgt := 280) (by decide +kernel) (by decide) (fun c54 => ?_) (fun c54 => ?_)
                  · replace h := jpos c54 h
                    refine ev_seg (o := 2) (nL := 5) (q := 281) (xs := [(.iconst 0, 1, 0, 0, .int 0)]) (L' := [some (.ref 73), some (.int x1), some (.int q1.1), some (.int q4.1), none]) (st' := [.int 0]) (w' := q47.2) (g := []) (K := []) (by decide +kernel) rfl rfl rfl rfl jk0 ?_
                    cases h
                    exact ev_zret (by decide +kernel) rfl rfl rfl rfl rfl
                  · replace h := jneg c54 h
                    refine ev_seg (o := 2) (nL := 5) (q := 249) (xs := [(.aload_n 0, 1, 0, 0, .null), (.bipush 9, 2, 0, 0, .int 9)]) (L' := [some (.ref 73), some (.int x1), some (.int q1.1), some (.int q4.1), none]) (st' := [.int 9, .ref 73]) (w' := q47.2) (g := []) (K := []) (by decide +kernel) rfl rfl rfl rfl jk0 ?_
                    obtain ⟨q48, hq48, h⟩ := jbe h
                    refine ev_callV (ci := 2) (a := 73) (y2 := y_Reader_expect) (o := 2) (idx := 74) (d2 := d_Reader_expect) (n := 1) (mc2 := 0) (ms2 := 0) (As := [.int 9]) (st := []) (res2 := (some (.int q48.1), jR0, q48.2)) (by decide +kernel) rfl lk_2_74 mo_Reader_expect mv_Reader_expect ⟨Nat.le_of_ble_eq_true rfl, Nat.le_of_ble_eq_true rfl⟩ rfl rfl kz_73 (by decide) rfl (Nat.le_of_ble_eq_true rfl) ⟨Nat.le_refl _, Nat.le_refl _⟩ hG (e_Reader_expect hG hq48) ?_
                    refine ev_if_eq (off := 28) (tgt := 280) (by decide +kernel) (by decide) (fun c53 => ?_) (fun c53 => ?_)
                    · replace h := jpos c53 h
                      refine ev_seg (o := 2) (nL := 5) (q := 281) (xs := [(.iconst 0, 1, 0, 0, .int 0)]) (L' := [some (.ref 73), some (.int x1), some (.int q1.1), some (.int q4.1), none]) (st' := [.int 0]) (w' := q48.2) (g := []) (K := []) (by decide +kernel) rfl rfl rfl rfl jk0 ?_
                      cases h
                      exact ev_zret (by decide +kernel) rfl rfl rfl rfl rfl
                    · replace h := jneg c53 h
                      refine ev_seg (o := 2) (nL := 5) (q := 261) (xs := [(.aload_n 0, 1, 0, 0, .null), (.iload_n 3, 1, 3, 0, .null), (.iconst 2, 1, 0, 0, .int 2), (.iconst 0, 1, 0, 0, .int 0), (.bipush 99, 2, 0, 0, .int 99)]) (L' := [some (.ref 73), some (.int x1), some (.int q1.1), some (.int q4.1), none]) (st' := [.int 99, .int 0, .int 2, .int q4.1, .ref 73]) (w' := q48.2) (g := []) (K := []) (by decide +kernel) rfl rfl rfl rfl jk0 ?_
                      obtain ⟨q49, hq49, h⟩ := jbe h
                      refine ev_callV (ci := 2) (a := 73) (y2 := y_Reader_among) (o := 2) (idx := 70) (d2 := d_Reader_among) (n := 4) (mc2 := 0) (ms2 := 0) (As := [.int q4.1, .int 2, .int 0, .int 99]) (st := []) (res2 := (some (.int q49.1), jR0, q49.2)) (by decide +kernel) rfl lk_2_70 mo_Reader_among mv_Reader_among ⟨Nat.le_of_ble_eq_true rfl, Nat.le_of_ble_eq_true rfl⟩ rfl rfl kz_73 (by decide) rfl (Nat.le_of_ble_eq_true rfl) ⟨Nat.le_refl _, Nat.le_refl _⟩ hG (e_Reader_among hG hq49) ?_
                      refine ev_if_eq (off := 16) (tgt := 280) (by decide +kernel) (by decide) (fun c52 => ?_) (fun c52 => ?_)
                      · replace h := jpos c52 h
                        refine ev_seg (o := 2) (nL := 5) (q := 281) (xs := [(.iconst 0, 1, 0, 0, .int 0)]) (L' := [some (.ref 73), some (.int x1), some (.int q1.1), some (.int q4.1), none]) (st' := [.int 0]) (w' := q49.2) (g := []) (K := []) (by decide +kernel) rfl rfl rfl rfl jk0 ?_
                        cases h
                        exact ev_zret (by decide +kernel) rfl rfl rfl rfl rfl
                      · replace h := jneg c52 h
                        refine ev_seg (o := 2) (nL := 5) (q := 270) (xs := [(.aload_n 0, 1, 0, 0, .null), (.bipush 26, 2, 0, 0, .int 26)]) (L' := [some (.ref 73), some (.int x1), some (.int q1.1), some (.int q4.1), none]) (st' := [.int 26, .ref 73]) (w' := q49.2) (g := []) (K := []) (by decide +kernel) rfl rfl rfl rfl jk0 ?_
                        obtain ⟨q50, hq50, h⟩ := jbe h
                        refine ev_callV (ci := 2) (a := 73) (y2 := y_Reader_expect) (o := 2) (idx := 74) (d2 := d_Reader_expect) (n := 1) (mc2 := 0) (ms2 := 0) (As := [.int 26]) (st := []) (res2 := (some (.int q50.1), jR0, q50.2)) (by decide +kernel) rfl lk_2_74 mo_Reader_expect mv_Reader_expect ⟨Nat.le_of_ble_eq_true rfl, Nat.le_of_ble_eq_true rfl⟩ rfl rfl kz_73 (by decide) rfl (Nat.le_of_ble_eq_true rfl) ⟨Nat.le_refl _, Nat.le_refl _⟩ hG (e_Reader_expect hG hq50) ?_
                        refine ev_if_eq (off := 7) (tgt := 280) (by decide +kernel) (by decide) (fun c51 => ?_) (fun c51 => ?_)
                        · replace h := jpos c51 h
                          refine ev_seg (o := 2) (nL := 5) (q := 281) (xs := [(.iconst 0, 1, 0, 0, .int 0)]) (L' := [some (.ref 73), some (.int x1), some (.int q1.1), some (.int q4.1), none]) (st' := [.int 0]) (w' := q50.2) (g := []) (K := []) (by decide +kernel) rfl rfl rfl rfl jk0 ?_
                          cases h
                          exact ev_zret (by decide +kernel) rfl rfl rfl rfl rfl
                        · replace h := jneg c51 h
                          refine ev_seg (o := 2) (nL := 5) (q := 281) (xs := [(.iconst 1, 1, 0, 0, .int 1), (.goto 4, 3, 0, 0, .null)]) (L' := [some (.ref 73), some (.int x1), some (.int q1.1), some (.int q4.1), none]) (st' := [.int 1]) (w' := q50.2) (g := []) (K := []) (by decide +kernel) rfl rfl rfl rfl jk0 ?_
                          cases h
                          exact ev_zret (by decide +kernel) rfl rfl rfl rfl rfl
                · replace h := jneg c46 h
                  by_cases c55 : q1.1 = 6
                  · replace h := jpos c55 h
                    refine ev_tableIn (dflt := 221) (lo := 1) (hi := 6) (offs := #[39, 118, 146, 221, 173, 118]) (len := 39) (off := 118) (tgt := 179) (by decide +kernel) (by rw [c55]; decide) (by rw [c55]; decide) (by rw [c55]; decide) (by decide) ?_
                    refine ev_seg (o := 2) (nL := 5) (q := 186) (xs := [(.aload_n 0, 1, 0, 0, .null), (.iload_n 3, 1, 3, 0, .null), (.iconst 1, 1, 0, 0, .int 1), (.iconst 0, 1, 0, 0, .int 0), (.sipush 360, 3, 0, 0, .int 360)]) (L' := [some (.ref 73), some (.int x1), some (.int q1.1), some (.int q4.1), none]) (st' := [.int 360, .int 0, .int 1, .int q4.1, .ref 73]) (w' := q4.2) (g := []) (K := []) (by decide +kernel) rfl rfl rfl rfl jk0 ?_
                    obtain ⟨q56, hq56, h⟩ := jbe h
                    refine ev_callV (ci := 2) (a := 73) (y2 := y_Reader_among) (o := 2) (idx := 70) (d2 := d_Reader_among) (n := 4) (mc2 := 0) (ms2 := 0) (As := [.int q4.1, .int 1, .int 0, .int 360]) (st := []) (res2 := (some (.int q56.1), jR0, q56.2)) (by decide +kernel) rfl lk_2_70 mo_Reader_among mv_Reader_among ⟨Nat.le_of_ble_eq_true rfl, Nat.le_of_ble_eq_true rfl⟩ rfl rfl kz_73 (by decide) rfl (Nat.le_of_ble_eq_true rfl) ⟨Nat.le_refl _, Nat.le_refl _⟩ hG (e_Reader_among hG hq56) ?_
                    refine ev_if_eq (off := 16) (tgt := 205) (by decide +kernel) (by decide) (fun c59 => ?_) (fun c59 => ?_)
                    · replace h := jpos c59 h
                      refine ev_seg (o := 2) (nL := 5) (q := 206) (xs := [(.iconst 0, 1, 0, 0, .int 0)]) (L' := [some (.ref 73), some (.int x1), some (.int q1.1), some (.int q4.1), none]) (st' := [.int 0]) (w' := q56.2) (g := []) (K := []) (by decide +kernel) rfl rfl rfl rfl jk0 ?_
                      cases h
                      exact ev_zret (by decide +kernel) rfl rfl rfl rfl rfl
                    · replace h := jneg c59 h
                      refine ev_seg (o := 2) (nL := 5) (q := 195) (xs := [(.aload_n 0, 1, 0, 0, .null), (.bipush 26, 2, 0, 0, .int 26)]) (L' := [some (.ref 73), some (.int x1), some (.int q1.1), some (.int q4.1), none]) (st' := [.int 26, .ref 73]) (w' := q56.2) (g := []) (K := []) (by decide +kernel) rfl rfl rfl rfl jk0 ?_
                      obtain ⟨q57, hq57, h⟩ := jbe h
                      refine ev_callV (ci := 2) (a := 73) (y2 := y_Reader_expect) (o := 2) (idx := 74) (d2 := d_Reader_expect) (n := 1) (mc2 := 0) (ms2 := 0) (As := [.int 26]) (st := []) (res2 := (some (.int q57.1), jR0, q57.2)) (by decide +kernel) rfl lk_2_74 mo_Reader_expect mv_Reader_expect ⟨Nat.le_of_ble_eq_true rfl, Nat.le_of_ble_eq_true rfl⟩ rfl rfl kz_73 (by decide) rfl (Nat.le_of_ble_eq_true rfl) ⟨Nat.le_refl _, Nat.le_refl _⟩ hG (e_Reader_expect hG hq57) ?_
                      refine ev_if_eq (off := 7) (tgt := 205) (by decide +kernel) (by decide) (fun c58 => ?_) (fun c58 => ?_)
                      · replace h := jpos c58 h
                        refine ev_seg (o := 2) (nL := 5) (q := 206) (xs := [(.iconst 0, 1, 0, 0, .int 0)]) (L' := [some (.ref 73), some (.int x1), some (.int q1.1), some (.int q4.1), none]) (st' := [.int 0]) (w' := q57.2) (g := []) (K := []) (by decide +kernel) rfl rfl rfl rfl jk0 ?_
                        cases h
                        exact ev_zret (by decide +kernel) rfl rfl rfl rfl rfl
                      · replace h := jneg c58 h
                        refine ev_seg (o := 2) (nL := 5) (q := 206) (xs := [(.iconst 1, 1, 0, 0, .int 1), (.goto 4, 3, 0, 0, .null)]) (L' := [some (.ref 73), some (.int x1), some (.int q1.1), some (.int q4.1), none]) (st' := [.int 1]) (w' := q57.2) (g := []) (K := []) (by decide +kernel) rfl rfl rfl rfl jk0 ?_
                        cases h
                        exact ev_zret (by decide +kernel) rfl rfl rfl rfl rfl
                  · replace h := jneg c55 h
                    have ec13 := lv_neT (a := 1) c13 rfl
                    have ec27 := lv_neT (a := 2) c27 rfl
                    have ec32 := lv_neT (a := 3) c32 rfl
                    have ec37 := lv_neT (a := 4) c37 rfl
                    have ec46 := lv_neT (a := 5) c46 rfl
                    have ec55 := lv_neT (a := 6) c55 rfl
                    refine ev_tableOut (dflt := 221) (lo := 1) (hi := 6) (offs := #[39, 118, 146, 221, 173, 118]) (len := 39) (tgt := 282) (by decide +kernel) (by omega) (by decide) ?_
                    refine ev_seg (o := 2) (nL := 5) (q := 292) (xs := [(.aload_n 0, 1, 0, 0, .null), (.getfield 14, 3, 2, 0, .ref 3), (.iload_n 3, 1, 3, 0, .null), (.iconst 1, 1, 0, 0, .int 1), (.aload_n 0, 1, 0, 0, .null), (.getfield 20, 3, 2, 1, .ref 3)]) (L' := [some (.ref 73), some (.int x1), some (.int q1.1), some (.int q4.1), none]) (st' := [.ref 76, .int 1, .int q4.1, .ref 74]) (w' := q4.2) (g := []) (K := [(76, 3), (73, 2), (74, 3), (73, 2)]) (by decide +kernel) rfl rfl rfl rfl (jk1 kz_76 (jk1 kz_73 (jk1 kz_74 (jk1 kz_73 jk0)))) ?_
                    obtain ⟨q5, hq5, h⟩ := jbe h
                    refine ev_callV (ci := 3) (a := 76) (y2 := y_Rows_count) (o := 2) (idx := 77) (d2 := d_Rows_count) (n := 0) (mc2 := 0) (ms2 := 0) (As := []) (st := [.int 1, .int q4.1, .ref 74]) (res2 := (some (.int q5.1), jR0, q5.2)) (by decide +kernel) rfl lk_2_77 mo_Rows_count mv_Rows_count ⟨Nat.le_of_ble_eq_true rfl, Nat.le_of_ble_eq_true rfl⟩ rfl rfl kz_76 (by decide) rfl (Nat.le_of_ble_eq_true rfl) ⟨Nat.le_refl _, Nat.le_refl _⟩ hG (e_Rows_count hG kz_76 hq5) ?_
                    obtain ⟨q6, hq6, h⟩ := jbe h
                    refine ev_callV (ci := 3) (a := 74) (y2 := y_Rows_put) (o := 2) (idx := 81) (d2 := d_Rows_put) (n := 3) (mc2 := 0) (ms2 := 0) (As := [.int q4.1, .int 1, .int q5.1]) (st := []) (res2 := (none, jR0, q6)) (by decide +kernel) rfl lk_2_81 mo_Rows_put mv_Rows_put ⟨Nat.le_of_ble_eq_true rfl, Nat.le_of_ble_eq_true rfl⟩ rfl rfl kz_74 (by decide) rfl (Nat.le_of_ble_eq_true rfl) ⟨Nat.le_refl _, Nat.le_refl _⟩ hG (e_Rows_put hG kz_74 hq6) ?_
                    refine ev_seg (o := 2) (nL := 5) (q := 300) (xs := [(.aload_n 0, 1, 0, 0, .null), (.iconst 0, 1, 0, 0, .int 0)]) (L' := [some (.ref 73), some (.int x1), some (.int q1.1), some (.int q4.1), none]) (st' := [.int 0, .ref 73]) (w' := q6) (g := []) (K := []) (by decide +kernel) rfl rfl rfl rfl jk0 ?_
                    obtain ⟨q7, hq7, h⟩ := jbe h
                    refine ev_callV (ci := 2) (a := 73) (y2 := y_Reader_either) (o := 2) (idx := 85) (d2 := D_Reader_either) (n := 1) (mc2 := 0) (ms2 := 0) (As := [.int 0]) (st := []) (res2 := (some (.int q7.1), jR0, q7.2)) (by decide +kernel) rfl lk_2_85 mo_Reader_either mv_Reader_either ⟨Nat.le_of_ble_eq_true rfl, Nat.le_of_ble_eq_true rfl⟩ rfl rfl kz_73 (by decide) rfl (Nat.le_of_ble_eq_true rfl) ⟨Nat.le_refl _, Nat.le_refl _⟩ hG (e_Reader_either hG hq7) ?_
                    refine ev_seg (o := 2) (nL := 5) (q := 315) (xs := [(.istore 4, 2, 4, 0, .null), (.aload_n 0, 1, 0, 0, .null), (.getfield 14, 3, 2, 0, .ref 3), (.iload_n 3, 1, 3, 0, .null), (.iconst 2, 1, 0, 0, .int 2), (.aload_n 0, 1, 0, 0, .null), (.getfield 20, 3, 2, 1, .ref 3)]) (L' := [some (.ref 73), some (.int x1), some (.int q1.1), some (.int q4.1), some (.int q7.1)]) (st' := [.ref 76, .int 2, .int q4.1, .ref 74]) (w' := q7.2) (g := []) (K := [(76, 3), (73, 2), (74, 3), (73, 2)]) (by decide +kernel) rfl rfl rfl rfl (jk1 kz_76 (jk1 kz_73 (jk1 kz_74 (jk1 kz_73 jk0)))) ?_
                    obtain ⟨q8, hq8, h⟩ := jbe h
                    refine ev_callV (ci := 3) (a := 76) (y2 := y_Rows_count) (o := 2) (idx := 77) (d2 := d_Rows_count) (n := 0) (mc2 := 0) (ms2 := 0) (As := []) (st := [.int 2, .int q4.1, .ref 74]) (res2 := (some (.int q8.1), jR0, q8.2)) (by decide +kernel) rfl lk_2_77 mo_Rows_count mv_Rows_count ⟨Nat.le_of_ble_eq_true rfl, Nat.le_of_ble_eq_true rfl⟩ rfl rfl kz_76 (by decide) rfl (Nat.le_of_ble_eq_true rfl) ⟨Nat.le_refl _, Nat.le_refl _⟩ hG (e_Rows_count hG kz_76 hq8) ?_
                    obtain ⟨q9, hq9, h⟩ := jbe h
                    refine ev_callV (ci := 3) (a := 74) (y2 := y_Rows_put) (o := 2) (idx := 81) (d2 := d_Rows_put) (n := 3) (mc2 := 0) (ms2 := 0) (As := [.int q4.1, .int 2, .int q8.1]) (st := []) (res2 := (none, jR0, q9)) (by decide +kernel) rfl lk_2_81 mo_Rows_put mv_Rows_put ⟨Nat.le_of_ble_eq_true rfl, Nat.le_of_ble_eq_true rfl⟩ rfl rfl kz_74 (by decide) rfl (Nat.le_of_ble_eq_true rfl) ⟨Nat.le_refl _, Nat.le_refl _⟩ hG (e_Rows_put hG kz_74 hq9) ?_
                    refine ev_seg (o := 2) (nL := 5) (q := 323) (xs := [(.iload 4, 2, 4, 0, .null)]) (L' := [some (.ref 73), some (.int x1), some (.int q1.1), some (.int q4.1), some (.int q7.1)]) (st' := [.int q7.1]) (w' := q9) (g := []) (K := []) (by decide +kernel) rfl rfl rfl rfl jk0 ?_
                    refine ev_if_eq (off := 16) (tgt := 339) (by decide +kernel) (by decide) (fun c12 => ?_) (fun c12 => ?_)
                    · replace h := jpos c12 h
                      refine ev_seg (o := 2) (nL := 5) (q := 340) (xs := [(.iconst 0, 1, 0, 0, .int 0)]) (L' := [some (.ref 73), some (.int x1), some (.int q1.1), some (.int q4.1), some (.int q7.1)]) (st' := [.int 0]) (w' := q9) (g := []) (K := []) (by decide +kernel) rfl rfl rfl rfl jk0 ?_
                      cases h
                      exact ev_zret (by decide +kernel) rfl rfl rfl rfl rfl
                    · replace h := jneg c12 h
                      refine ev_seg (o := 2) (nL := 5) (q := 329) (xs := [(.aload_n 0, 1, 0, 0, .null), (.bipush 26, 2, 0, 0, .int 26)]) (L' := [some (.ref 73), some (.int x1), some (.int q1.1), some (.int q4.1), some (.int q7.1)]) (st' := [.int 26, .ref 73]) (w' := q9) (g := []) (K := []) (by decide +kernel) rfl rfl rfl rfl jk0 ?_
                      obtain ⟨q10, hq10, h⟩ := jbe h
                      refine ev_callV (ci := 2) (a := 73) (y2 := y_Reader_expect) (o := 2) (idx := 74) (d2 := d_Reader_expect) (n := 1) (mc2 := 0) (ms2 := 0) (As := [.int 26]) (st := []) (res2 := (some (.int q10.1), jR0, q10.2)) (by decide +kernel) rfl lk_2_74 mo_Reader_expect mv_Reader_expect ⟨Nat.le_of_ble_eq_true rfl, Nat.le_of_ble_eq_true rfl⟩ rfl rfl kz_73 (by decide) rfl (Nat.le_of_ble_eq_true rfl) ⟨Nat.le_refl _, Nat.le_refl _⟩ hG (e_Reader_expect hG hq10) ?_
                      refine ev_if_eq (off := 7) (tgt := 339) (by decide +kernel) (by decide) (fun c11 => ?_) (fun c11 => ?_)
                      · replace h := jpos c11 h
                        refine ev_seg (o := 2) (nL := 5) (q := 340) (xs := [(.iconst 0, 1, 0, 0, .int 0)]) (L' := [some (.ref 73), some (.int x1), some (.int q1.1), some (.int q4.1), some (.int q7.1)]) (st' := [.int 0]) (w' := q10.2) (g := []) (K := []) (by decide +kernel) rfl rfl rfl rfl jk0 ?_
                        cases h
                        exact ev_zret (by decide +kernel) rfl rfl rfl rfl rfl
                      · replace h := jneg c11 h
                        refine ev_seg (o := 2) (nL := 5) (q := 340) (xs := [(.iconst 1, 1, 0, 0, .int 1), (.goto 4, 3, 0, 0, .null)]) (L' := [some (.ref 73), some (.int x1), some (.int q1.1), some (.int q4.1), some (.int q7.1)]) (st' := [.int 1]) (w' := q10.2) (g := []) (K := []) (by decide +kernel) rfl rfl rfl rfl jk0 ?_
                        cases h
                        exact ev_zret (by decide +kernel) rfl rfl rfl rfl rfl
      · replace h := jneg c61 h
        refine ev_seg (o := 2) (nL := 5) (q := 37) (xs := [(.aload_n 0, 1, 0, 0, .null), (.iconst 4, 1, 0, 0, .int 4)]) (L' := [some (.ref 73), some (.int x1), some (.int q1.1), none, none]) (st' := [.int 4, .ref 73]) (w' := q1.2) (g := []) (K := []) (by decide +kernel) rfl rfl rfl rfl jk0 ?_
        obtain ⟨q60, hq60, h⟩ := jbe h
        refine ev_callV (ci := 2) (a := 73) (y2 := y_Reader_fail) (o := 2) (idx := 63) (d2 := d_Reader_fail) (n := 1) (mc2 := 0) (ms2 := 0) (As := [.int 4]) (st := []) (res2 := (some (.int q60.1), jR0, q60.2)) (by decide +kernel) rfl lk_2_63 mo_Reader_fail mv_Reader_fail ⟨Nat.le_of_ble_eq_true rfl, Nat.le_of_ble_eq_true rfl⟩ rfl rfl kz_73 (by decide) rfl (Nat.le_of_ble_eq_true rfl) ⟨Nat.le_refl _, Nat.le_refl _⟩ hG (e_Reader_fail hG hq60) ?_
        obtain ⟨hz, h⟩ := jgd h
        cases h
        exact ev_zret (by decide +kernel) rfl hz rfl rfl rfl
    · replace h := jneg c62 h
      refine ev_mask [true, false, false, false, false] ?_
      exact t_Reader_clause_j23 hG h
def f_Reader_read_j106 (s0 : Int32) (w : jW) : Option (Int32 × jW) :=
  jlw ((jup w.1 73 4 s0), w.2) fun w9 =>
  if (w9.1 73 3) = 0 then
    some (1, w9)
  else
    some (0, w9)
set_option maxRecDepth 20000 in
theorem t_Reader_read_j106 {l : Launch} {G : jG} (hG : jX G) {s0 : Int32} {w : jW} {z : (Int32 × jW)} (h : f_Reader_read_j106 s0 w = some z) : Ev l G (jrm D_Reader_read 0 0) y_Reader_read (some (.int z.1), jR0, z.2) 0 0 0 0 106 [some (.ref 73), none] [.int s0, .ref 73] jR0 w := by
  rw [f_Reader_read_j106] at h
  refine ev_seg (o := 2) (nL := 2) (q := 109) (xs := [(.putfield 42, 3, 2, 4, .int 0)]) (L' := [some (.ref 73), none]) (st' := []) (w' := ((jup w.1 73 4 s0), w.2)) (g := []) (K := [(73, 2)]) (by decide +kernel) rfl rfl rfl rfl (jk1 kz_73 jk0) ?_
  refine jlw_c (P := fun w9 => Ev l G (jrm D_Reader_read 0 0) y_Reader_read (some (.int z.1), jR0, z.2) 0 0 0 0 109 [some (.ref 73), none] [] jR0 w9) h fun w9 h => ?_
  refine ev_seg (o := 2) (nL := 2) (q := 113) (xs := [(.aload_n 0, 1, 0, 0, .null), (.getfield 38, 3, 2, 3, .int 0)]) (L' := [some (.ref 73), none]) (st' := [.int (w9.1 73 3)]) (w' := w9) (g := []) (K := [(73, 2)]) (by decide +kernel) rfl rfl rfl rfl (jk1 kz_73 jk0) ?_
  refine ev_if_ne (off := 7) (tgt := 120) (by decide +kernel) (by decide) (fun c10 => ?_) (fun c10 => ?_)
  · replace h := jneg c10 h
    refine ev_seg (o := 2) (nL := 2) (q := 121) (xs := [(.iconst 0, 1, 0, 0, .int 0)]) (L' := [some (.ref 73), none]) (st' := [.int 0]) (w' := w9) (g := []) (K := []) (by decide +kernel) rfl rfl rfl rfl jk0 ?_
    cases h
    exact ev_zret (by decide +kernel) rfl rfl rfl rfl rfl
  · replace h := jpos c10 h
    refine ev_seg (o := 2) (nL := 2) (q := 121) (xs := [(.iconst 1, 1, 0, 0, .int 1), (.goto 4, 3, 0, 0, .null)]) (L' := [some (.ref 73), none]) (st' := [.int 1]) (w' := w9) (g := []) (K := []) (by decide +kernel) rfl rfl rfl rfl jk0 ?_
    cases h
    exact ev_zret (by decide +kernel) rfl rfl rfl rfl rfl
def f_Reader_read_j82 (w : jW) : Option (Int32 × jW) :=
  if (w.1 73 3) = 0 then
    f_Reader_read_j106 (-1) w
  else
    Option.bind (f_Rows_at 81 (w.1 73 7) 1 w) fun q8 =>
    f_Reader_read_j106 q8.1 q8.2
set_option maxRecDepth 20000 in
theorem t_Reader_read_j82 {l : Launch} {G : jG} (hG : jX G) {w : jW} {z : (Int32 × jW)} (h : f_Reader_read_j82 w = some z) : Ev l G (jrm D_Reader_read 0 0) y_Reader_read (some (.int z.1), jR0, z.2) 0 0 0 0 82 [some (.ref 73), none] [] jR0 w := by
  rw [f_Reader_read_j82] at h
  refine ev_seg (o := 2) (nL := 2) (q := 87) (xs := [(.aload_n 0, 1, 0, 0, .null), (.aload_n 0, 1, 0, 0, .null), (.getfield 38, 3, 2, 3, .int 0)]) (L' := [some (.ref 73), none]) (st' := [.int (w.1 73 3), .ref 73]) (w' := w) (g := []) (K := [(73, 2)]) (by decide +kernel) rfl rfl rfl rfl (jk1 kz_73 jk0) ?_
  refine ev_if_ne (off := 7) (tgt := 94) (by decide +kernel) (by decide) (fun c11 => ?_) (fun c11 => ?_)
  · replace h := jneg c11 h
    refine ev_seg (o := 2) (nL := 2) (q := 103) (xs := [(.aload_n 0, 1, 0, 0, .null), (.getfield 33, 3, 2, 6, .ref 3), (.aload_n 0, 1, 0, 0, .null), (.getfield 45, 3, 2, 7, .int 0), (.iconst 1, 1, 0, 0, .int 1)]) (L' := [some (.ref 73), none]) (st' := [.int 1, .int (w.1 73 7), .ref 81, .ref 73]) (w' := w) (g := []) (K := [(73, 2), (81, 3), (73, 2)]) (by decide +kernel) rfl rfl rfl rfl (jk1 kz_73 (jk1 kz_81 (jk1 kz_73 jk0))) ?_
    obtain ⟨q8, hq8, h⟩ := jbe h
    refine ev_callV (ci := 3) (a := 81) (y2 := y_Rows_at) (o := 2) (idx := 55) (d2 := d_Rows_at) (n := 2) (mc2 := 0) (ms2 := 0) (As := [.int (w.1 73 7), .int 1]) (st := [.ref 73]) (res2 := (some (.int q8.1), jR0, q8.2)) (by decide +kernel) rfl lk_2_55 mo_Rows_at mv_Rows_at ⟨Nat.le_of_ble_eq_true rfl, Nat.le_of_ble_eq_true rfl⟩ rfl rfl kz_81 (by decide) rfl (Nat.le_of_ble_eq_true rfl) ⟨Nat.le_refl _, Nat.le_refl _⟩ hG (e_Rows_at hG kz_81 hq8) ?_
    refine ev_mask [true, false] ?_
    exact t_Reader_read_j106 hG h
  · replace h := jpos c11 h
    refine ev_seg (o := 2) (nL := 2) (q := 106) (xs := [(.iconst (-1), 1, 0, 0, .int (-1)), (.goto 15, 3, 0, 0, .null)]) (L' := [some (.ref 73), none]) (st' := [.int (-1), .ref 73]) (w' := w) (g := []) (K := []) (by decide +kernel) rfl rfl rfl rfl jk0 ?_
    refine ev_mask [true, false] ?_
    exact t_Reader_read_j106 hG h
def f_Reader_read_h40 : Nat → Int32 → jW → Option (Int32 × jW)
  | 0, _, _ => none
  | n + 1, x1, w =>
  if x1 ≤ 16 then
    if (w.1 73 3) = 0 then
      Option.bind (f_Rows_at 81 (w.1 73 7) 0 w) fun q12 =>
      if q12.1 = 28 then
        f_Reader_read_j82 q12.2
      else
        Option.bind (f_Reader_clause x1 q12.2) fun q13 =>
        (f_Reader_read_h40 n) (x1 + 1) q13.2
    else
      f_Reader_read_j82 w
  else
    f_Reader_read_j82 w
set_option maxRecDepth 20000 in
theorem t_Reader_read_h40 {l : Launch} {G : jG} (hG : jX G) : ∀ (n : Nat) (x1 : Int32) (w : jW) (z : (Int32 × jW)), f_Reader_read_h40 n x1 w = some z → Ev l G (jrm D_Reader_read 0 0) y_Reader_read (some (.int z.1), jR0, z.2) 0 0 0 0 40 [some (.ref 73), some (.int x1)] [] jR0 w := by
  intro n
  induction n with
  | zero => intro x1 w z h; simp only [f_Reader_read_h40] at h; cases h
  | succ n ih =>
    intro x1 w z h
    rw [f_Reader_read_h40] at h
    refine ev_seg (o := 2) (nL := 2) (q := 43) (xs := [(.iload_n 1, 1, 1, 0, .null), (.bipush 16, 2, 0, 0, .int 16)]) (L' := [some (.ref 73), some (.int x1)]) (st' := [.int 16, .int x1]) (w' := w) (g := []) (K := []) (by decide +kernel) rfl rfl rfl rfl jk0 ?_
    refine ev_icmp_gt (off := 39) (tgt := 82) (by decide +kernel) (by decide) (fun c16 => ?_) (fun c16 => ?_)
    · replace h := jneg c16 h
      refine ev_mask [true, false] ?_
      exact t_Reader_read_j82 hG h
    · replace h := jpos c16 h
      refine ev_seg (o := 2) (nL := 2) (q := 50) (xs := [(.aload_n 0, 1, 0, 0, .null), (.getfield 38, 3, 2, 3, .int 0)]) (L' := [some (.ref 73), some (.int x1)]) (st' := [.int (w.1 73 3)]) (w' := w) (g := []) (K := [(73, 2)]) (by decide +kernel) rfl rfl rfl rfl (jk1 kz_73 jk0) ?_
      refine ev_if_ne (off := 32) (tgt := 82) (by decide +kernel) (by decide) (fun c15 => ?_) (fun c15 => ?_)
      · replace h := jneg c15 h
        refine ev_mask [true, false] ?_
        exact t_Reader_read_j82 hG h
      · replace h := jpos c15 h
        refine ev_seg (o := 2) (nL := 2) (q := 62) (xs := [(.aload_n 0, 1, 0, 0, .null), (.getfield 33, 3, 2, 6, .ref 3), (.aload_n 0, 1, 0, 0, .null), (.getfield 45, 3, 2, 7, .int 0), (.iconst 0, 1, 0, 0, .int 0)]) (L' := [some (.ref 73), some (.int x1)]) (st' := [.int 0, .int (w.1 73 7), .ref 81]) (w' := w) (g := []) (K := [(73, 2), (81, 3), (73, 2)]) (by decide +kernel) rfl rfl rfl rfl (jk1 kz_73 (jk1 kz_81 (jk1 kz_73 jk0))) ?_
        obtain ⟨q12, hq12, h⟩ := jbe h
        refine ev_callV (ci := 3) (a := 81) (y2 := y_Rows_at) (o := 2) (idx := 55) (d2 := d_Rows_at) (n := 2) (mc2 := 0) (ms2 := 0) (As := [.int (w.1 73 7), .int 0]) (st := []) (res2 := (some (.int q12.1), jR0, q12.2)) (by decide +kernel) rfl lk_2_55 mo_Rows_at mv_Rows_at ⟨Nat.le_of_ble_eq_true rfl, Nat.le_of_ble_eq_true rfl⟩ rfl rfl kz_81 (by decide) rfl (Nat.le_of_ble_eq_true rfl) ⟨Nat.le_refl _, Nat.le_refl _⟩ hG (e_Rows_at hG kz_81 hq12) ?_
        refine ev_seg (o := 2) (nL := 2) (q := 67) (xs := [(.bipush 28, 2, 0, 0, .int 28)]) (L' := [some (.ref 73), some (.int x1)]) (st' := [.int 28, .int q12.1]) (w' := q12.2) (g := []) (K := []) (by decide +kernel) rfl rfl rfl rfl jk0 ?_
        refine ev_icmp_eq (off := 15) (tgt := 82) (by decide +kernel) (by decide) (fun c14 => ?_) (fun c14 => ?_)
        · replace h := jpos c14 h
          refine ev_mask [true, false] ?_
          exact t_Reader_read_j82 hG h
        · replace h := jneg c14 h
          refine ev_seg (o := 2) (nL := 2) (q := 72) (xs := [(.aload_n 0, 1, 0, 0, .null), (.iload_n 1, 1, 1, 0, .null)]) (L' := [some (.ref 73), some (.int x1)]) (st' := [.int x1, .ref 73]) (w' := q12.2) (g := []) (K := []) (by decide +kernel) rfl rfl rfl rfl jk0 ?_
          obtain ⟨q13, hq13, h⟩ := jbe h
          refine ev_callV (ci := 2) (a := 73) (y2 := y_Reader_clause) (o := 2) (idx := 59) (d2 := D_Reader_clause) (n := 1) (mc2 := 0) (ms2 := 0) (As := [.int x1]) (st := []) (res2 := (some (.int q13.1), jR0, q13.2)) (by decide +kernel) rfl lk_2_59 mo_Reader_clause mv_Reader_clause ⟨Nat.le_of_ble_eq_true rfl, Nat.le_of_ble_eq_true rfl⟩ rfl rfl kz_73 (by decide) rfl (Nat.le_of_ble_eq_true rfl) ⟨Nat.le_refl _, Nat.le_refl _⟩ hG (e_Reader_clause hG hq13) ?_
          refine ev_seg (o := 2) (nL := 2) (q := 40) (xs := [(.pop, 1, 0, 0, .null), (.iinc 1 1, 3, 1, 0, .int 1), (.goto (-39), 3, 0, 0, .null)]) (L' := [some (.ref 73), some (.int (x1 + 1))]) (st' := []) (w' := q13.2) (g := []) (K := []) (by decide +kernel) rfl rfl rfl rfl jk0 ?_
          refine ev_mask [true, true] ?_
          exact ih _ _ _ h
def f_Reader_read (w : jW) : Option (Int32 × jW) :=
  Option.bind (f_Tokens_split w) fun q1 =>
  jlw ((jup q1.1 73 7 0), q1.2) fun w2 =>
  Option.bind (f_Rows_cut 74 0 w2) fun q3 =>
  Option.bind (f_Rows_cut 76 0 q3) fun q4 =>
  if jal [jbo 1] = true then
  jlw ((jup q4.1 73 2 1), q4.2) fun w6 =>
  jlw ((jup w6.1 73 3 0), w6.2) fun w7 =>
  f_Reader_read_h40 jfu 0 w7
  else none
set_option maxRecDepth 20000 in
theorem e_Reader_read {l : Launch} {G : jG} (hG : jX G) {w : jW} {z : (Int32 × jW)} (h : f_Reader_read w = some z) : Ct l G y_Reader_read D_Reader_read 0 0 [.ref 73] jR0 w (some (.int z.1), jR0, z.2) := by
  rw [f_Reader_read] at h
  refine Ct.of (L := [some (.ref 73), none]) (by decide) (Nat.le_of_ble_eq_true rfl) rfl ?_
  refine ev_seg (o := 2) (nL := 2) (q := 4) (xs := [(.aload_n 0, 1, 0, 0, .null), (.getfield 26, 3, 2, 5, .ref 7)]) (L' := [some (.ref 73), none]) (st' := [.ref 78]) (w' := w) (g := []) (K := [(78, 7), (73, 2)]) (by decide +kernel) rfl rfl rfl rfl (jk1 kz_78 (jk1 kz_73 jk0)) ?_
  obtain ⟨q1, hq1, h⟩ := jbe h
  refine ev_callV (ci := 7) (a := 78) (y2 := y_Tokens_split) (o := 2) (idx := 48) (d2 := D_Tokens_split) (n := 0) (mc2 := 0) (ms2 := 0) (As := []) (st := []) (res2 := (none, jR0, q1)) (by decide +kernel) rfl lk_2_48 mo_Tokens_split mv_Tokens_split ⟨Nat.le_of_ble_eq_true rfl, Nat.le_of_ble_eq_true rfl⟩ rfl rfl kz_78 (by decide) rfl (Nat.le_of_ble_eq_true rfl) ⟨Nat.le_refl _, Nat.le_refl _⟩ hG (e_Tokens_split hG hq1) ?_
  refine ev_seg (o := 2) (nL := 2) (q := 12) (xs := [(.aload_n 0, 1, 0, 0, .null), (.iconst 0, 1, 0, 0, .int 0), (.putfield 45, 3, 2, 7, .int 0)]) (L' := [some (.ref 73), none]) (st' := []) (w' := ((jup q1.1 73 7 0), q1.2)) (g := []) (K := [(73, 2)]) (by decide +kernel) rfl rfl rfl rfl (jk1 kz_73 jk0) ?_
  refine jlw_c (P := fun w2 => Ev l G (jrm D_Reader_read 0 0) y_Reader_read (some (.int z.1), jR0, z.2) 0 0 0 0 12 [some (.ref 73), none] [] jR0 w2) h fun w2 h => ?_
  refine ev_seg (o := 2) (nL := 2) (q := 17) (xs := [(.aload_n 0, 1, 0, 0, .null), (.getfield 14, 3, 2, 0, .ref 3), (.iconst 0, 1, 0, 0, .int 0)]) (L' := [some (.ref 73), none]) (st' := [.int 0, .ref 74]) (w' := w2) (g := []) (K := [(74, 3), (73, 2)]) (by decide +kernel) rfl rfl rfl rfl (jk1 kz_74 (jk1 kz_73 jk0)) ?_
  obtain ⟨q3, hq3, h⟩ := jbe h
  refine ev_callV (ci := 3) (a := 74) (y2 := y_Rows_cut) (o := 2) (idx := 51) (d2 := d_Rows_cut) (n := 1) (mc2 := 0) (ms2 := 0) (As := [.int 0]) (st := []) (res2 := (none, jR0, q3)) (by decide +kernel) rfl lk_2_51 mo_Rows_cut mv_Rows_cut ⟨Nat.le_of_ble_eq_true rfl, Nat.le_of_ble_eq_true rfl⟩ rfl rfl kz_74 (by decide) rfl (Nat.le_of_ble_eq_true rfl) ⟨Nat.le_refl _, Nat.le_refl _⟩ hG (e_Rows_cut hG kz_74 hq3) ?_
  refine ev_seg (o := 2) (nL := 2) (q := 25) (xs := [(.aload_n 0, 1, 0, 0, .null), (.getfield 20, 3, 2, 1, .ref 3), (.iconst 0, 1, 0, 0, .int 0)]) (L' := [some (.ref 73), none]) (st' := [.int 0, .ref 76]) (w' := q3) (g := []) (K := [(76, 3), (73, 2)]) (by decide +kernel) rfl rfl rfl rfl (jk1 kz_76 (jk1 kz_73 jk0)) ?_
  obtain ⟨q4, hq4, h⟩ := jbe h
  refine ev_callV (ci := 3) (a := 76) (y2 := y_Rows_cut) (o := 2) (idx := 51) (d2 := d_Rows_cut) (n := 1) (mc2 := 0) (ms2 := 0) (As := [.int 0]) (st := []) (res2 := (none, jR0, q4)) (by decide +kernel) rfl lk_2_51 mo_Rows_cut mv_Rows_cut ⟨Nat.le_of_ble_eq_true rfl, Nat.le_of_ble_eq_true rfl⟩ rfl rfl kz_76 (by decide) rfl (Nat.le_of_ble_eq_true rfl) ⟨Nat.le_refl _, Nat.le_refl _⟩ hG (e_Rows_cut hG kz_76 hq4) ?_
  obtain ⟨hg5, h⟩ := jgd h
  refine ev_seg (o := 2) (nL := 2) (q := 33) (xs := [(.aload_n 0, 1, 0, 0, .null), (.iconst 1, 1, 0, 0, .int 1), (.putfield 34, 3, 2, 2, .int 1)]) (L' := [some (.ref 73), none]) (st' := []) (w' := ((jup q4.1 73 2 1), q4.2)) (g := [jbo 1]) (K := [(73, 2)]) (by decide +kernel) rfl rfl rfl hg5 (jk1 kz_73 jk0) ?_
  refine jlw_c (P := fun w6 => Ev l G (jrm D_Reader_read 0 0) y_Reader_read (some (.int z.1), jR0, z.2) 0 0 0 0 33 [some (.ref 73), none] [] jR0 w6) h fun w6 h => ?_
  refine ev_seg (o := 2) (nL := 2) (q := 38) (xs := [(.aload_n 0, 1, 0, 0, .null), (.iconst 0, 1, 0, 0, .int 0), (.putfield 38, 3, 2, 3, .int 0)]) (L' := [some (.ref 73), none]) (st' := []) (w' := ((jup w6.1 73 3 0), w6.2)) (g := []) (K := [(73, 2)]) (by decide +kernel) rfl rfl rfl rfl (jk1 kz_73 jk0) ?_
  refine jlw_c (P := fun w7 => Ev l G (jrm D_Reader_read 0 0) y_Reader_read (some (.int z.1), jR0, z.2) 0 0 0 0 38 [some (.ref 73), none] [] jR0 w7) h fun w7 h => ?_
  refine ev_seg (o := 2) (nL := 2) (q := 40) (xs := [(.iconst 0, 1, 0, 0, .int 0), (.istore_n 1, 1, 1, 0, .null)]) (L' := [some (.ref 73), some (.int 0)]) (st' := []) (w' := w7) (g := []) (K := []) (by decide +kernel) rfl rfl rfl rfl jk0 ?_
  refine ev_mask [true, true] ?_
  exact t_Reader_read_h40 hG jfu _ _ _ h
def f_Count_text (x1 : Int32) (w : jW) : Option (Int32 × jW) :=
  if x1 < (w.1 3 0) then
    some ((-1), w)
  else
    if x1 ≤ 1999 then
      Option.bind (f_Rows_isFull 17 w) fun q1 =>
      if q1.1 = 0 then
        Option.bind (f_Reader_read q1.2) fun q2 =>
        Option.bind (f_Rows_cut 79 0 q2.2) fun q3 =>
        if q2.1 = 0 then
          some ((-1), q3)
        else
          Option.bind (f_Treaty_adopt x1 q3) fun q4 =>
          some (q4.1, q4.2)
      else
        some ((-1), q1.2)
    else
      some ((-1), w)
set_option maxRecDepth 20000 in
theorem e_Count_text {l : Launch} {G : jG} (hG : jX G) {x1 : Int32} {w : jW} {z : (Int32 × jW)} (h : f_Count_text x1 w = some z) : Ct l G y_Count_text D_Count_text 0 0 [.ref 2, .int x1] jR0 w (some (.int z.1), jR0, z.2) := by
  rw [f_Count_text] at h
  refine Ct.of (L := [some (.ref 2), some (.int x1), none]) (by decide) (Nat.le_of_ble_eq_true rfl) rfl ?_
  refine ev_seg (o := 9) (nL := 3) (q := 8) (xs := [(.iload_n 1, 1, 1, 0, .null), (.aload_n 0, 1, 0, 0, .null), (.getfield 12, 3, 9, 0, .ref 6), (.getfield 119, 3, 6, 0, .int 0)]) (L' := [some (.ref 2), some (.int x1), none]) (st' := [.int (w.1 3 0), .int x1]) (w' := w) (g := []) (K := [(3, 6), (3, 6), (2, 9)]) (by decide +kernel) rfl rfl rfl rfl (jk1 kz_3 (jk1 kz_3 (jk1 kz_2 jk0))) ?_
  refine ev_icmp_lt (off := 26) (tgt := 34) (by decide +kernel) (by decide) (fun c8 => ?_) (fun c8 => ?_)
  · replace h := jpos c8 h
    refine ev_seg (o := 9) (nL := 3) (q := 35) (xs := [(.iconst (-1), 1, 0, 0, .int (-1))]) (L' := [some (.ref 2), some (.int x1), none]) (st' := [.int (-1)]) (w' := w) (g := []) (K := []) (by decide +kernel) rfl rfl rfl rfl jk0 ?_
    cases h
    exact ev_iret (by decide +kernel) rfl rfl rfl rfl
  · replace h := jneg c8 h
    refine ev_seg (o := 9) (nL := 3) (q := 15) (xs := [(.iload_n 1, 1, 1, 0, .null), (.sipush 1999, 3, 0, 0, .int 1999)]) (L' := [some (.ref 2), some (.int x1), none]) (st' := [.int 1999, .int x1]) (w' := w) (g := []) (K := []) (by decide +kernel) rfl rfl rfl rfl jk0 ?_
    refine ev_icmp_gt (off := 19) (tgt := 34) (by decide +kernel) (by decide) (fun c7 => ?_) (fun c7 => ?_)
    · replace h := jneg c7 h
      refine ev_seg (o := 9) (nL := 3) (q := 35) (xs := [(.iconst (-1), 1, 0, 0, .int (-1))]) (L' := [some (.ref 2), some (.int x1), none]) (st' := [.int (-1)]) (w' := w) (g := []) (K := []) (by decide +kernel) rfl rfl rfl rfl jk0 ?_
      cases h
      exact ev_iret (by decide +kernel) rfl rfl rfl rfl
    · replace h := jpos c7 h
      refine ev_seg (o := 9) (nL := 3) (q := 28) (xs := [(.aload_n 0, 1, 0, 0, .null), (.getfield 12, 3, 9, 0, .ref 6), (.getfield 132, 3, 6, 11, .ref 8), (.getfield 173, 3, 8, 0, .ref 3)]) (L' := [some (.ref 2), some (.int x1), none]) (st' := [.ref 17]) (w' := w) (g := []) (K := [(17, 3), (16, 8), (16, 8), (3, 6), (3, 6), (2, 9)]) (by decide +kernel) rfl rfl rfl rfl (jk1 kz_17 (jk1 kz_16 (jk1 kz_16 (jk1 kz_3 (jk1 kz_3 (jk1 kz_2 jk0)))))) ?_
      obtain ⟨q1, hq1, h⟩ := jbe h
      refine ev_callV (ci := 3) (a := 17) (y2 := y_Rows_isFull) (o := 9) (idx := 62) (d2 := d_Rows_isFull) (n := 0) (mc2 := 0) (ms2 := 0) (As := []) (st := []) (res2 := (some (.int q1.1), jR0, q1.2)) (by decide +kernel) rfl lk_9_62 mo_Rows_isFull mv_Rows_isFull ⟨Nat.le_of_ble_eq_true rfl, Nat.le_of_ble_eq_true rfl⟩ rfl rfl kz_17 (by decide) rfl (Nat.le_of_ble_eq_true rfl) ⟨Nat.le_refl _, Nat.le_refl _⟩ hG (e_Rows_isFull hG kz_17 hq1) ?_
      refine ev_if_eq (off := 5) (tgt := 36) (by decide +kernel) (by decide) (fun c6 => ?_) (fun c6 => ?_)
      · replace h := jpos c6 h
        refine ev_seg (o := 9) (nL := 3) (q := 40) (xs := [(.aload_n 0, 1, 0, 0, .null), (.getfield 22, 3, 9, 2, .ref 2)]) (L' := [some (.ref 2), some (.int x1), none]) (st' := [.ref 73]) (w' := q1.2) (g := []) (K := [(73, 2), (2, 9)]) (by decide +kernel) rfl rfl rfl rfl (jk1 kz_73 (jk1 kz_2 jk0)) ?_
        obtain ⟨q2, hq2, h⟩ := jbe h
        refine ev_callV (ci := 2) (a := 73) (y2 := y_Reader_read) (o := 9) (idx := 176) (d2 := D_Reader_read) (n := 0) (mc2 := 0) (ms2 := 0) (As := []) (st := []) (res2 := (some (.int q2.1), jR0, q2.2)) (by decide +kernel) rfl lk_9_176 mo_Reader_read mv_Reader_read ⟨Nat.le_of_ble_eq_true rfl, Nat.le_of_ble_eq_true rfl⟩ rfl rfl kz_73 (by decide) rfl (Nat.le_of_ble_eq_true rfl) ⟨Nat.le_refl _, Nat.le_refl _⟩ hG (e_Reader_read hG hq2) ?_
        refine ev_seg (o := 9) (nL := 3) (q := 55) (xs := [(.istore_n 2, 1, 2, 0, .null), (.aload_n 0, 1, 0, 0, .null), (.getfield 22, 3, 9, 2, .ref 2), (.getfield 158, 3, 2, 5, .ref 7), (.getfield 162, 3, 7, 0, .ref 3), (.iconst 0, 1, 0, 0, .int 0)]) (L' := [some (.ref 2), some (.int x1), some (.int q2.1)]) (st' := [.int 0, .ref 79]) (w' := q2.2) (g := []) (K := [(79, 3), (78, 7), (78, 7), (73, 2), (73, 2), (2, 9)]) (by decide +kernel) rfl rfl rfl rfl (jk1 kz_79 (jk1 kz_78 (jk1 kz_78 (jk1 kz_73 (jk1 kz_73 (jk1 kz_2 jk0)))))) ?_
        obtain ⟨q3, hq3, h⟩ := jbe h
        refine ev_callV (ci := 3) (a := 79) (y2 := y_Rows_cut) (o := 9) (idx := 170) (d2 := d_Rows_cut) (n := 1) (mc2 := 0) (ms2 := 0) (As := [.int 0]) (st := []) (res2 := (none, jR0, q3)) (by decide +kernel) rfl lk_9_170 mo_Rows_cut mv_Rows_cut ⟨Nat.le_of_ble_eq_true rfl, Nat.le_of_ble_eq_true rfl⟩ rfl rfl kz_79 (by decide) rfl (Nat.le_of_ble_eq_true rfl) ⟨Nat.le_refl _, Nat.le_refl _⟩ hG (e_Rows_cut hG kz_79 hq3) ?_
        refine ev_seg (o := 9) (nL := 3) (q := 59) (xs := [(.iload_n 2, 1, 2, 0, .null)]) (L' := [some (.ref 2), some (.int x1), some (.int q2.1)]) (st' := [.int q2.1]) (w' := q3) (g := []) (K := []) (by decide +kernel) rfl rfl rfl rfl jk0 ?_
        refine ev_if_eq (off := 21) (tgt := 80) (by decide +kernel) (by decide) (fun c5 => ?_) (fun c5 => ?_)
        · replace h := jpos c5 h
          refine ev_seg (o := 9) (nL := 3) (q := 81) (xs := [(.iconst (-1), 1, 0, 0, .int (-1))]) (L' := [some (.ref 2), some (.int x1), some (.int q2.1)]) (st' := [.int (-1)]) (w' := q3) (g := []) (K := []) (by decide +kernel) rfl rfl rfl rfl jk0 ?_
          cases h
          exact ev_iret (by decide +kernel) rfl rfl rfl rfl
        · replace h := jneg c5 h
          refine ev_seg (o := 9) (nL := 3) (q := 74) (xs := [(.aload_n 0, 1, 0, 0, .null), (.getfield 12, 3, 9, 0, .ref 6), (.getfield 132, 3, 6, 11, .ref 8), (.aload_n 0, 1, 0, 0, .null), (.getfield 22, 3, 9, 2, .ref 2), (.iload_n 1, 1, 1, 0, .null)]) (L' := [some (.ref 2), some (.int x1), some (.int q2.1)]) (st' := [.int x1, .ref 73, .ref 16]) (w' := q3) (g := []) (K := [(73, 2), (2, 9), (16, 8), (3, 6), (3, 6), (2, 9)]) (by decide +kernel) rfl rfl rfl rfl (jk1 kz_73 (jk1 kz_2 (jk1 kz_16 (jk1 kz_3 (jk1 kz_3 (jk1 kz_2 jk0)))))) ?_
          obtain ⟨q4, hq4, h⟩ := jbe h
          refine ev_callV (ci := 8) (a := 16) (y2 := y_Treaty_adopt) (o := 9) (idx := 179) (d2 := d_Treaty_adopt) (n := 2) (mc2 := 0) (ms2 := 0) (As := [.ref 73, .int x1]) (st := []) (res2 := (some (.int q4.1), jR0, q4.2)) (by decide +kernel) rfl lk_9_179 mo_Treaty_adopt mv_Treaty_adopt ⟨Nat.le_of_ble_eq_true rfl, Nat.le_of_ble_eq_true rfl⟩ rfl rfl kz_16 (by decide) rfl (Nat.le_of_ble_eq_true rfl) ⟨Nat.le_refl _, Nat.le_refl _⟩ hG (e_Treaty_adopt hG hq4) ?_
          refine ev_seg (o := 9) (nL := 3) (q := 81) (xs := [(.goto 4, 3, 0, 0, .null)]) (L' := [some (.ref 2), some (.int x1), some (.int q2.1)]) (st' := [.int q4.1]) (w' := q4.2) (g := []) (K := []) (by decide +kernel) rfl rfl rfl rfl jk0 ?_
          cases h
          exact ev_iret (by decide +kernel) rfl rfl rfl rfl
      · replace h := jneg c6 h
        refine ev_seg (o := 9) (nL := 3) (q := 35) (xs := [(.iconst (-1), 1, 0, 0, .int (-1))]) (L' := [some (.ref 2), some (.int x1), none]) (st' := [.int (-1)]) (w' := q1.2) (g := []) (K := []) (by decide +kernel) rfl rfl rfl rfl jk0 ?_
        cases h
        exact ev_iret (by decide +kernel) rfl rfl rfl rfl
def f_Rows_copy (a0 : Nat) (a1 : Nat) (w : jW) : Option jW :=
  if (Int32.ofNat (jSl jR0 (jSr jR0 a1 1))) = (Int32.ofNat (jSl jR0 (jSr jR0 a0 1))) then
    if jcg 0 0 (Int32.ofNat (jSl jR0 (jSr jR0 a0 1))) (jSl jR0 (jSr jR0 a1 1)) (jSl jR0 (jSr jR0 a0 1)) = true then
    jlw (jcpw w (jSr jR0 a1 1) (jSr jR0 a0 1) 0 0 (Int32.ofNat (jSl jR0 (jSr jR0 a0 1)))) fun w1 =>
    jlw ((jup w1.1 a0 2 (w1.1 a1 2)), w1.2) fun w2 =>
    some w2
    else none
  else
    some w
set_option maxRecDepth 20000 in
theorem e_Rows_copy {l : Launch} {G : jG} (hG : jX G) {a0 : Nat} {a1 : Nat} (h_a0 : jSk jR0 a0 = 3) (h_a1 : jSk jR0 a1 = 3) {w : jW} {z : jW} (h : f_Rows_copy a0 a1 w = some z) : Ct l G y_Rows_copy D_Rows_copy 0 0 [.ref a0, .ref a1] jR0 w (none, jR0, z) := by
  rw [f_Rows_copy] at h
  refine Ct.of (L := [some (.ref a0), some (.ref a1)]) (by decide) (Nat.le_of_ble_eq_true rfl) rfl ?_
  refine ev_seg (o := 3) (nL := 2) (q := 1) (xs := [(.aload_n 1, 1, 1, 0, .null)]) (L' := [some (.ref a0), some (.ref a1)]) (st' := [.ref a1]) (w' := w) (g := []) (K := []) (by decide +kernel) rfl rfl rfl rfl jk0 ?_
  refine ev_ifnull (off := 16) (by decide +kernel) ?_
  refine ev_seg (o := 3) (nL := 2) (q := 14) (xs := [(.aload_n 1, 1, 1, 0, .null), (.getfield 21, 3, 3, 1, .ref 20), (.arraylength, 1, 20, 0, .null), (.aload_n 0, 1, 0, 0, .null), (.getfield 21, 3, 3, 1, .ref 20), (.arraylength, 1, 20, 0, .null)]) (L' := [some (.ref a0), some (.ref a1)]) (st' := [.int (Int32.ofNat (jSl jR0 (jSr jR0 a0 1))), .int (Int32.ofNat (jSl jR0 (jSr jR0 a1 1)))]) (w' := w) (g := []) (K := [((jSr jR0 a0 1), 20), ((jSr jR0 a0 1), 20), (a0, 3), ((jSr jR0 a1 1), 20), ((jSr jR0 a1 1), 20), (a1, 3)]) (by decide +kernel) rfl rfl rfl rfl (jk1 (kt_3_1 h_a0) (jk1 (kt_3_1 h_a0) (jk1 h_a0 (jk1 (kt_3_1 h_a1) (jk1 (kt_3_1 h_a1) (jk1 h_a1 jk0)))))) ?_
  refine ev_icmp_eq (off := 4) (tgt := 18) (by decide +kernel) (by decide) (fun c3 => ?_) (fun c3 => ?_)
  · replace h := jpos c3 h
    refine ev_seg (o := 3) (nL := 2) (q := 33) (xs := [(.aload_n 1, 1, 1, 0, .null), (.getfield 21, 3, 3, 1, .ref 20), (.iconst 0, 1, 0, 0, .int 0), (.aload_n 0, 1, 0, 0, .null), (.getfield 21, 3, 3, 1, .ref 20), (.iconst 0, 1, 0, 0, .int 0), (.aload_n 0, 1, 0, 0, .null), (.getfield 21, 3, 3, 1, .ref 20), (.arraylength, 1, 20, 0, .null)]) (L' := [some (.ref a0), some (.ref a1)]) (st' := [.int (Int32.ofNat (jSl jR0 (jSr jR0 a0 1))), .int 0, .ref (jSr jR0 a0 1), .int 0, .ref (jSr jR0 a1 1)]) (w' := w) (g := []) (K := [((jSr jR0 a0 1), 20), ((jSr jR0 a0 1), 20), (a0, 3), ((jSr jR0 a0 1), 20), (a0, 3), ((jSr jR0 a1 1), 20), (a1, 3)]) (by decide +kernel) rfl rfl rfl rfl (jk1 (kt_3_1 h_a0) (jk1 (kt_3_1 h_a0) (jk1 h_a0 (jk1 (kt_3_1 h_a0) (jk1 h_a0 (jk1 (kt_3_1 h_a1) (jk1 h_a1 jk0))))))) ?_
    obtain ⟨hs, h⟩ := jgd h
    refine ev_acopy (o := 3) (idx := 31) (by decide +kernel) rfl lk_3_31 (kt_3_1 h_a1) (kt_3_1 h_a0) hs (Nat.le_of_ble_eq_true rfl) (Nat.le_of_ble_eq_true rfl) ?_
    refine jlw_c (P := fun w1 => Ev l G (jrm D_Rows_copy 0 0) y_Rows_copy (none, jR0, z) 0 0 0 0 36 [some (.ref a0), some (.ref a1)] [] jR0 w1) h fun w1 h => ?_
    refine ev_seg (o := 3) (nL := 2) (q := 44) (xs := [(.aload_n 0, 1, 0, 0, .null), (.aload_n 1, 1, 1, 0, .null), (.getfield 25, 3, 3, 2, .int 0), (.putfield 25, 3, 3, 2, .int 0)]) (L' := [some (.ref a0), some (.ref a1)]) (st' := []) (w' := ((jup w1.1 a0 2 (w1.1 a1 2)), w1.2)) (g := []) (K := [(a0, 3), (a1, 3)]) (by decide +kernel) rfl rfl rfl rfl (jk1 h_a0 (jk1 h_a1 jk0)) ?_
    refine jlw_c (P := fun w2 => Ev l G (jrm D_Rows_copy 0 0) y_Rows_copy (none, jR0, z) 0 0 0 0 44 [some (.ref a0), some (.ref a1)] [] jR0 w2) h fun w2 h => ?_
    cases h
    exact ev_vret (by decide +kernel) rfl rfl rfl rfl
  · replace h := jneg c3 h
    cases h
    exact ev_vret (by decide +kernel) rfl rfl rfl rfl
def f_Treaty_copy (a0 : Nat) (a1 : Nat) (w : jW) : Option jW :=
  Option.bind (f_Rows_copy (jSr jR0 a0 0) (jSr jR0 a1 0) w) fun q1 =>
  Option.bind (f_Rows_copy (jSr jR0 a0 1) (jSr jR0 a1 1) q1) fun q2 =>
  Option.bind (f_Rows_copy (jSr jR0 a0 2) (jSr jR0 a1 2) q2) fun q3 =>
  some q3
set_option maxRecDepth 20000 in
theorem e_Treaty_copy {l : Launch} {G : jG} (hG : jX G) {a0 : Nat} {a1 : Nat} (h_a0 : jSk jR0 a0 = 8) (h_a1 : jSk jR0 a1 = 8) {w : jW} {z : jW} (h : f_Treaty_copy a0 a1 w = some z) : Ct l G y_Treaty_copy D_Treaty_copy 0 0 [.ref a0, .ref a1] jR0 w (none, jR0, z) := by
  rw [f_Treaty_copy] at h
  refine Ct.of (L := [some (.ref a0), some (.ref a1)]) (by decide) (Nat.le_of_ble_eq_true rfl) rfl ?_
  refine ev_seg (o := 8) (nL := 2) (q := 1) (xs := [(.aload_n 1, 1, 1, 0, .null)]) (L' := [some (.ref a0), some (.ref a1)]) (st' := [.ref a1]) (w' := w) (g := []) (K := []) (by decide +kernel) rfl rfl rfl rfl jk0 ?_
  refine ev_ifnonnull (off := 4) (tgt := 5) (by decide +kernel) (by decide) ?_
  refine ev_seg (o := 8) (nL := 2) (q := 13) (xs := [(.aload_n 0, 1, 0, 0, .null), (.getfield 14, 3, 8, 0, .ref 3), (.aload_n 1, 1, 1, 0, .null), (.getfield 14, 3, 8, 0, .ref 3)]) (L' := [some (.ref a0), some (.ref a1)]) (st' := [.ref (jSr jR0 a1 0), .ref (jSr jR0 a0 0)]) (w' := w) (g := []) (K := [((jSr jR0 a1 0), 3), (a1, 8), ((jSr jR0 a0 0), 3), (a0, 8)]) (by decide +kernel) rfl rfl rfl rfl (jk1 (kt_8_0 h_a1) (jk1 h_a1 (jk1 (kt_8_0 h_a0) (jk1 h_a0 jk0)))) ?_
  obtain ⟨q1, hq1, h⟩ := jbe h
  refine ev_callV (ci := 3) (a := (jSr jR0 a0 0)) (y2 := y_Rows_copy) (o := 8) (idx := 30) (d2 := D_Rows_copy) (n := 1) (mc2 := 0) (ms2 := 0) (As := [.ref (jSr jR0 a1 0)]) (st := []) (res2 := (none, jR0, q1)) (by decide +kernel) rfl lk_8_30 mo_Rows_copy mv_Rows_copy ⟨Nat.le_of_ble_eq_true rfl, Nat.le_of_ble_eq_true rfl⟩ rfl rfl (kt_8_0 h_a0) (by decide) rfl (Nat.le_of_ble_eq_true rfl) ⟨Nat.le_refl _, Nat.le_refl _⟩ hG (e_Rows_copy hG (kt_8_0 h_a0) (kt_8_0 h_a1) hq1) ?_
  refine ev_seg (o := 8) (nL := 2) (q := 24) (xs := [(.aload_n 0, 1, 0, 0, .null), (.getfield 20, 3, 8, 1, .ref 3), (.aload_n 1, 1, 1, 0, .null), (.getfield 20, 3, 8, 1, .ref 3)]) (L' := [some (.ref a0), some (.ref a1)]) (st' := [.ref (jSr jR0 a1 1), .ref (jSr jR0 a0 1)]) (w' := q1) (g := []) (K := [((jSr jR0 a1 1), 3), (a1, 8), ((jSr jR0 a0 1), 3), (a0, 8)]) (by decide +kernel) rfl rfl rfl rfl (jk1 (kt_8_1 h_a1) (jk1 h_a1 (jk1 (kt_8_1 h_a0) (jk1 h_a0 jk0)))) ?_
  obtain ⟨q2, hq2, h⟩ := jbe h
  refine ev_callV (ci := 3) (a := (jSr jR0 a0 1)) (y2 := y_Rows_copy) (o := 8) (idx := 30) (d2 := D_Rows_copy) (n := 1) (mc2 := 0) (ms2 := 0) (As := [.ref (jSr jR0 a1 1)]) (st := []) (res2 := (none, jR0, q2)) (by decide +kernel) rfl lk_8_30 mo_Rows_copy mv_Rows_copy ⟨Nat.le_of_ble_eq_true rfl, Nat.le_of_ble_eq_true rfl⟩ rfl rfl (kt_8_1 h_a0) (by decide) rfl (Nat.le_of_ble_eq_true rfl) ⟨Nat.le_refl _, Nat.le_refl _⟩ hG (e_Rows_copy hG (kt_8_1 h_a0) (kt_8_1 h_a1) hq2) ?_
  refine ev_seg (o := 8) (nL := 2) (q := 35) (xs := [(.aload_n 0, 1, 0, 0, .null), (.getfield 23, 3, 8, 2, .ref 3), (.aload_n 1, 1, 1, 0, .null), (.getfield 23, 3, 8, 2, .ref 3)]) (L' := [some (.ref a0), some (.ref a1)]) (st' := [.ref (jSr jR0 a1 2), .ref (jSr jR0 a0 2)]) (w' := q2) (g := []) (K := [((jSr jR0 a1 2), 3), (a1, 8), ((jSr jR0 a0 2), 3), (a0, 8)]) (by decide +kernel) rfl rfl rfl rfl (jk1 (kt_8_2 h_a1) (jk1 h_a1 (jk1 (kt_8_2 h_a0) (jk1 h_a0 jk0)))) ?_
  obtain ⟨q3, hq3, h⟩ := jbe h
  refine ev_callV (ci := 3) (a := (jSr jR0 a0 2)) (y2 := y_Rows_copy) (o := 8) (idx := 30) (d2 := D_Rows_copy) (n := 1) (mc2 := 0) (ms2 := 0) (As := [.ref (jSr jR0 a1 2)]) (st := []) (res2 := (none, jR0, q3)) (by decide +kernel) rfl lk_8_30 mo_Rows_copy mv_Rows_copy ⟨Nat.le_of_ble_eq_true rfl, Nat.le_of_ble_eq_true rfl⟩ rfl rfl (kt_8_2 h_a0) (by decide) rfl (Nat.le_of_ble_eq_true rfl) ⟨Nat.le_refl _, Nat.le_refl _⟩ hG (e_Rows_copy hG (kt_8_2 h_a0) (kt_8_2 h_a1) hq3) ?_
  cases h
  exact ev_vret (by decide +kernel) rfl rfl rfl rfl
def f_State_copy (a0 : Nat) (a1 : Nat) (w : jW) : Option jW :=
  jlw ((jup w.1 a0 0 (w.1 a1 0)), w.2) fun w1 =>
  jlw ((jup w1.1 a0 1 (w1.1 a1 1)), w1.2) fun w2 =>
  jlw ((jup w2.1 a0 2 (w2.1 a1 2)), w2.2) fun w3 =>
  jlw ((jup w3.1 a0 3 (w3.1 a1 3)), w3.2) fun w4 =>
  jlw ((jup w4.1 a0 4 (w4.1 a1 4)), w4.2) fun w5 =>
  Option.bind (f_Rows_copy (jSr jR0 a0 5) (jSr jR0 a1 5) w5) fun q6 =>
  Option.bind (f_Rows_copy (jSr jR0 a0 6) (jSr jR0 a1 6) q6) fun q7 =>
  Option.bind (f_Rows_copy (jSr jR0 a0 7) (jSr jR0 a1 7) q7) fun q8 =>
  Option.bind (f_Rows_copy (jSr jR0 a0 8) (jSr jR0 a1 8) q8) fun q9 =>
  Option.bind (f_Rows_copy (jSr jR0 a0 9) (jSr jR0 a1 9) q9) fun q10 =>
  Option.bind (f_Rows_copy (jSr jR0 a0 10) (jSr jR0 a1 10) q10) fun q11 =>
  Option.bind (f_Treaty_copy (jSr jR0 a0 11) (jSr jR0 a1 11) q11) fun q12 =>
  Option.bind (f_Rows_copy (jSr jR0 a0 12) (jSr jR0 a1 12) q12) fun q13 =>
  Option.bind (f_Rows_copy (jSr jR0 a0 13) (jSr jR0 a1 13) q13) fun q14 =>
  Option.bind (f_Rows_copy (jSr jR0 a0 14) (jSr jR0 a1 14) q14) fun q15 =>
  Option.bind (f_Rows_copy (jSr jR0 a0 15) (jSr jR0 a1 15) q15) fun q16 =>
  Option.bind (f_Rows_copy (jSr jR0 a0 16) (jSr jR0 a1 16) q16) fun q17 =>
  Option.bind (f_Rows_copy (jSr jR0 a0 17) (jSr jR0 a1 17) q17) fun q18 =>
  Option.bind (f_Rows_copy (jSr jR0 a0 18) (jSr jR0 a1 18) q18) fun q19 =>
  some q19
set_option maxRecDepth 20000 in
theorem e_State_copy {l : Launch} {G : jG} (hG : jX G) {a0 : Nat} {a1 : Nat} (h_a0 : jSk jR0 a0 = 6) (h_a1 : jSk jR0 a1 = 6) {w : jW} {z : jW} (h : f_State_copy a0 a1 w = some z) : Ct l G y_State_copy D_State_copy 0 0 [.ref a0, .ref a1] jR0 w (none, jR0, z) := by
  rw [f_State_copy] at h
  refine Ct.of (L := [some (.ref a0), some (.ref a1)]) (by decide) (Nat.le_of_ble_eq_true rfl) rfl ?_
  refine ev_seg (o := 6) (nL := 2) (q := 1) (xs := [(.aload_n 1, 1, 1, 0, .null)]) (L' := [some (.ref a0), some (.ref a1)]) (st' := [.ref a1]) (w' := w) (g := []) (K := []) (by decide +kernel) rfl rfl rfl rfl jk0 ?_
  refine ev_ifnonnull (off := 4) (tgt := 5) (by decide +kernel) (by decide) ?_
  refine ev_seg (o := 6) (nL := 2) (q := 13) (xs := [(.aload_n 0, 1, 0, 0, .null), (.aload_n 1, 1, 1, 0, .null), (.getfield 9, 3, 6, 0, .int 0), (.putfield 9, 3, 6, 0, .int 0)]) (L' := [some (.ref a0), some (.ref a1)]) (st' := []) (w' := ((jup w.1 a0 0 (w.1 a1 0)), w.2)) (g := []) (K := [(a0, 6), (a1, 6)]) (by decide +kernel) rfl rfl rfl rfl (jk1 h_a0 (jk1 h_a1 jk0)) ?_
  refine jlw_c (P := fun w1 => Ev l G (jrm D_State_copy 0 0) y_State_copy (none, jR0, z) 0 0 0 0 13 [some (.ref a0), some (.ref a1)] [] jR0 w1) h fun w1 h => ?_
  refine ev_seg (o := 6) (nL := 2) (q := 21) (xs := [(.aload_n 0, 1, 0, 0, .null), (.aload_n 1, 1, 1, 0, .null), (.getfield 15, 3, 6, 1, .int 0), (.putfield 15, 3, 6, 1, .int 0)]) (L' := [some (.ref a0), some (.ref a1)]) (st' := []) (w' := ((jup w1.1 a0 1 (w1.1 a1 1)), w1.2)) (g := []) (K := [(a0, 6), (a1, 6)]) (by decide +kernel) rfl rfl rfl rfl (jk1 h_a0 (jk1 h_a1 jk0)) ?_
  refine jlw_c (P := fun w2 => Ev l G (jrm D_State_copy 0 0) y_State_copy (none, jR0, z) 0 0 0 0 21 [some (.ref a0), some (.ref a1)] [] jR0 w2) h fun w2 h => ?_
  refine ev_seg (o := 6) (nL := 2) (q := 29) (xs := [(.aload_n 0, 1, 0, 0, .null), (.aload_n 1, 1, 1, 0, .null), (.getfield 18, 3, 6, 2, .int 0), (.putfield 18, 3, 6, 2, .int 0)]) (L' := [some (.ref a0), some (.ref a1)]) (st' := []) (w' := ((jup w2.1 a0 2 (w2.1 a1 2)), w2.2)) (g := []) (K := [(a0, 6), (a1, 6)]) (by decide +kernel) rfl rfl rfl rfl (jk1 h_a0 (jk1 h_a1 jk0)) ?_
  refine jlw_c (P := fun w3 => Ev l G (jrm D_State_copy 0 0) y_State_copy (none, jR0, z) 0 0 0 0 29 [some (.ref a0), some (.ref a1)] [] jR0 w3) h fun w3 h => ?_
  refine ev_seg (o := 6) (nL := 2) (q := 37) (xs := [(.aload_n 0, 1, 0, 0, .null), (.aload_n 1, 1, 1, 0, .null), (.getfield 21, 3, 6, 3, .int 0), (.putfield 21, 3, 6, 3, .int 0)]) (L' := [some (.ref a0), some (.ref a1)]) (st' := []) (w' := ((jup w3.1 a0 3 (w3.1 a1 3)), w3.2)) (g := []) (K := [(a0, 6), (a1, 6)]) (by decide +kernel) rfl rfl rfl rfl (jk1 h_a0 (jk1 h_a1 jk0)) ?_
  refine jlw_c (P := fun w4 => Ev l G (jrm D_State_copy 0 0) y_State_copy (none, jR0, z) 0 0 0 0 37 [some (.ref a0), some (.ref a1)] [] jR0 w4) h fun w4 h => ?_
  refine ev_seg (o := 6) (nL := 2) (q := 45) (xs := [(.aload_n 0, 1, 0, 0, .null), (.aload_n 1, 1, 1, 0, .null), (.getfield 24, 3, 6, 4, .int 0), (.putfield 24, 3, 6, 4, .int 0)]) (L' := [some (.ref a0), some (.ref a1)]) (st' := []) (w' := ((jup w4.1 a0 4 (w4.1 a1 4)), w4.2)) (g := []) (K := [(a0, 6), (a1, 6)]) (by decide +kernel) rfl rfl rfl rfl (jk1 h_a0 (jk1 h_a1 jk0)) ?_
  refine jlw_c (P := fun w5 => Ev l G (jrm D_State_copy 0 0) y_State_copy (none, jR0, z) 0 0 0 0 45 [some (.ref a0), some (.ref a1)] [] jR0 w5) h fun w5 h => ?_
  refine ev_seg (o := 6) (nL := 2) (q := 53) (xs := [(.aload_n 0, 1, 0, 0, .null), (.getfield 32, 3, 6, 5, .ref 3), (.aload_n 1, 1, 1, 0, .null), (.getfield 32, 3, 6, 5, .ref 3)]) (L' := [some (.ref a0), some (.ref a1)]) (st' := [.ref (jSr jR0 a1 5), .ref (jSr jR0 a0 5)]) (w' := w5) (g := []) (K := [((jSr jR0 a1 5), 3), (a1, 6), ((jSr jR0 a0 5), 3), (a0, 6)]) (by decide +kernel) rfl rfl rfl rfl (jk1 (kt_6_5 h_a1) (jk1 h_a1 (jk1 (kt_6_5 h_a0) (jk1 h_a0 jk0)))) ?_
  obtain ⟨q6, hq6, h⟩ := jbe h
  refine ev_callV (ci := 3) (a := (jSr jR0 a0 5)) (y2 := y_Rows_copy) (o := 6) (idx := 123) (d2 := D_Rows_copy) (n := 1) (mc2 := 0) (ms2 := 0) (As := [.ref (jSr jR0 a1 5)]) (st := []) (res2 := (none, jR0, q6)) (by decide +kernel) rfl lk_6_123 mo_Rows_copy mv_Rows_copy ⟨Nat.le_of_ble_eq_true rfl, Nat.le_of_ble_eq_true rfl⟩ rfl rfl (kt_6_5 h_a0) (by decide) rfl (Nat.le_of_ble_eq_true rfl) ⟨Nat.le_refl _, Nat.le_refl _⟩ hG (e_Rows_copy hG (kt_6_5 h_a0) (kt_6_5 h_a1) hq6) ?_
  refine ev_seg (o := 6) (nL := 2) (q := 64) (xs := [(.aload_n 0, 1, 0, 0, .null), (.getfield 36, 3, 6, 6, .ref 3), (.aload_n 1, 1, 1, 0, .null), (.getfield 36, 3, 6, 6, .ref 3)]) (L' := [some (.ref a0), some (.ref a1)]) (st' := [.ref (jSr jR0 a1 6), .ref (jSr jR0 a0 6)]) (w' := q6) (g := []) (K := [((jSr jR0 a1 6), 3), (a1, 6), ((jSr jR0 a0 6), 3), (a0, 6)]) (by decide +kernel) rfl rfl rfl rfl (jk1 (kt_6_6 h_a1) (jk1 h_a1 (jk1 (kt_6_6 h_a0) (jk1 h_a0 jk0)))) ?_
  obtain ⟨q7, hq7, h⟩ := jbe h
  refine ev_callV (ci := 3) (a := (jSr jR0 a0 6)) (y2 := y_Rows_copy) (o := 6) (idx := 123) (d2 := D_Rows_copy) (n := 1) (mc2 := 0) (ms2 := 0) (As := [.ref (jSr jR0 a1 6)]) (st := []) (res2 := (none, jR0, q7)) (by decide +kernel) rfl lk_6_123 mo_Rows_copy mv_Rows_copy ⟨Nat.le_of_ble_eq_true rfl, Nat.le_of_ble_eq_true rfl⟩ rfl rfl (kt_6_6 h_a0) (by decide) rfl (Nat.le_of_ble_eq_true rfl) ⟨Nat.le_refl _, Nat.le_refl _⟩ hG (e_Rows_copy hG (kt_6_6 h_a0) (kt_6_6 h_a1) hq7) ?_
  refine ev_seg (o := 6) (nL := 2) (q := 75) (xs := [(.aload_n 0, 1, 0, 0, .null), (.getfield 39, 3, 6, 7, .ref 3), (.aload_n 1, 1, 1, 0, .null), (.getfield 39, 3, 6, 7, .ref 3)]) (L' := [some (.ref a0), some (.ref a1)]) (st' := [.ref (jSr jR0 a1 7), .ref (jSr jR0 a0 7)]) (w' := q7) (g := []) (K := [((jSr jR0 a1 7), 3), (a1, 6), ((jSr jR0 a0 7), 3), (a0, 6)]) (by decide +kernel) rfl rfl rfl rfl (jk1 (kt_6_7 h_a1) (jk1 h_a1 (jk1 (kt_6_7 h_a0) (jk1 h_a0 jk0)))) ?_
  obtain ⟨q8, hq8, h⟩ := jbe h
  refine ev_callV (ci := 3) (a := (jSr jR0 a0 7)) (y2 := y_Rows_copy) (o := 6) (idx := 123) (d2 := D_Rows_copy) (n := 1) (mc2 := 0) (ms2 := 0) (As := [.ref (jSr jR0 a1 7)]) (st := []) (res2 := (none, jR0, q8)) (by decide +kernel) rfl lk_6_123 mo_Rows_copy mv_Rows_copy ⟨Nat.le_of_ble_eq_true rfl, Nat.le_of_ble_eq_true rfl⟩ rfl rfl (kt_6_7 h_a0) (by decide) rfl (Nat.le_of_ble_eq_true rfl) ⟨Nat.le_refl _, Nat.le_refl _⟩ hG (e_Rows_copy hG (kt_6_7 h_a0) (kt_6_7 h_a1) hq8) ?_
  refine ev_seg (o := 6) (nL := 2) (q := 86) (xs := [(.aload_n 0, 1, 0, 0, .null), (.getfield 42, 3, 6, 8, .ref 3), (.aload_n 1, 1, 1, 0, .null), (.getfield 42, 3, 6, 8, .ref 3)]) (L' := [some (.ref a0), some (.ref a1)]) (st' := [.ref (jSr jR0 a1 8), .ref (jSr jR0 a0 8)]) (w' := q8) (g := []) (K := [((jSr jR0 a1 8), 3), (a1, 6), ((jSr jR0 a0 8), 3), (a0, 6)]) (by decide +kernel) rfl rfl rfl rfl (jk1 (kt_6_8 h_a1) (jk1 h_a1 (jk1 (kt_6_8 h_a0) (jk1 h_a0 jk0)))) ?_
  obtain ⟨q9, hq9, h⟩ := jbe h
  refine ev_callV (ci := 3) (a := (jSr jR0 a0 8)) (y2 := y_Rows_copy) (o := 6) (idx := 123) (d2 := D_Rows_copy) (n := 1) (mc2 := 0) (ms2 := 0) (As := [.ref (jSr jR0 a1 8)]) (st := []) (res2 := (none, jR0, q9)) (by decide +kernel) rfl lk_6_123 mo_Rows_copy mv_Rows_copy ⟨Nat.le_of_ble_eq_true rfl, Nat.le_of_ble_eq_true rfl⟩ rfl rfl (kt_6_8 h_a0) (by decide) rfl (Nat.le_of_ble_eq_true rfl) ⟨Nat.le_refl _, Nat.le_refl _⟩ hG (e_Rows_copy hG (kt_6_8 h_a0) (kt_6_8 h_a1) hq9) ?_
  refine ev_seg (o := 6) (nL := 2) (q := 97) (xs := [(.aload_n 0, 1, 0, 0, .null), (.getfield 45, 3, 6, 9, .ref 3), (.aload_n 1, 1, 1, 0, .null), (.getfield 45, 3, 6, 9, .ref 3)]) (L' := [some (.ref a0), some (.ref a1)]) (st' := [.ref (jSr jR0 a1 9), .ref (jSr jR0 a0 9)]) (w' := q9) (g := []) (K := [((jSr jR0 a1 9), 3), (a1, 6), ((jSr jR0 a0 9), 3), (a0, 6)]) (by decide +kernel) rfl rfl rfl rfl (jk1 (kt_6_9 h_a1) (jk1 h_a1 (jk1 (kt_6_9 h_a0) (jk1 h_a0 jk0)))) ?_
  obtain ⟨q10, hq10, h⟩ := jbe h
  refine ev_callV (ci := 3) (a := (jSr jR0 a0 9)) (y2 := y_Rows_copy) (o := 6) (idx := 123) (d2 := D_Rows_copy) (n := 1) (mc2 := 0) (ms2 := 0) (As := [.ref (jSr jR0 a1 9)]) (st := []) (res2 := (none, jR0, q10)) (by decide +kernel) rfl lk_6_123 mo_Rows_copy mv_Rows_copy ⟨Nat.le_of_ble_eq_true rfl, Nat.le_of_ble_eq_true rfl⟩ rfl rfl (kt_6_9 h_a0) (by decide) rfl (Nat.le_of_ble_eq_true rfl) ⟨Nat.le_refl _, Nat.le_refl _⟩ hG (e_Rows_copy hG (kt_6_9 h_a0) (kt_6_9 h_a1) hq10) ?_
  refine ev_seg (o := 6) (nL := 2) (q := 108) (xs := [(.aload_n 0, 1, 0, 0, .null), (.getfield 48, 3, 6, 10, .ref 3), (.aload_n 1, 1, 1, 0, .null), (.getfield 48, 3, 6, 10, .ref 3)]) (L' := [some (.ref a0), some (.ref a1)]) (st' := [.ref (jSr jR0 a1 10), .ref (jSr jR0 a0 10)]) (w' := q10) (g := []) (K := [((jSr jR0 a1 10), 3), (a1, 6), ((jSr jR0 a0 10), 3), (a0, 6)]) (by decide +kernel) rfl rfl rfl rfl (jk1 (kt_6_10 h_a1) (jk1 h_a1 (jk1 (kt_6_10 h_a0) (jk1 h_a0 jk0)))) ?_
  obtain ⟨q11, hq11, h⟩ := jbe h
  refine ev_callV (ci := 3) (a := (jSr jR0 a0 10)) (y2 := y_Rows_copy) (o := 6) (idx := 123) (d2 := D_Rows_copy) (n := 1) (mc2 := 0) (ms2 := 0) (As := [.ref (jSr jR0 a1 10)]) (st := []) (res2 := (none, jR0, q11)) (by decide +kernel) rfl lk_6_123 mo_Rows_copy mv_Rows_copy ⟨Nat.le_of_ble_eq_true rfl, Nat.le_of_ble_eq_true rfl⟩ rfl rfl (kt_6_10 h_a0) (by decide) rfl (Nat.le_of_ble_eq_true rfl) ⟨Nat.le_refl _, Nat.le_refl _⟩ hG (e_Rows_copy hG (kt_6_10 h_a0) (kt_6_10 h_a1) hq11) ?_
  refine ev_seg (o := 6) (nL := 2) (q := 119) (xs := [(.aload_n 0, 1, 0, 0, .null), (.getfield 54, 3, 6, 11, .ref 8), (.aload_n 1, 1, 1, 0, .null), (.getfield 54, 3, 6, 11, .ref 8)]) (L' := [some (.ref a0), some (.ref a1)]) (st' := [.ref (jSr jR0 a1 11), .ref (jSr jR0 a0 11)]) (w' := q11) (g := []) (K := [((jSr jR0 a1 11), 8), (a1, 6), ((jSr jR0 a0 11), 8), (a0, 6)]) (by decide +kernel) rfl rfl rfl rfl (jk1 (kt_6_11 h_a1) (jk1 h_a1 (jk1 (kt_6_11 h_a0) (jk1 h_a0 jk0)))) ?_
  obtain ⟨q12, hq12, h⟩ := jbe h
  refine ev_callV (ci := 8) (a := (jSr jR0 a0 11)) (y2 := y_Treaty_copy) (o := 6) (idx := 127) (d2 := D_Treaty_copy) (n := 1) (mc2 := 0) (ms2 := 0) (As := [.ref (jSr jR0 a1 11)]) (st := []) (res2 := (none, jR0, q12)) (by decide +kernel) rfl lk_6_127 mo_Treaty_copy mv_Treaty_copy ⟨Nat.le_of_ble_eq_true rfl, Nat.le_of_ble_eq_true rfl⟩ rfl rfl (kt_6_11 h_a0) (by decide) rfl (Nat.le_of_ble_eq_true rfl) ⟨Nat.le_refl _, Nat.le_refl _⟩ hG (e_Treaty_copy hG (kt_6_11 h_a0) (kt_6_11 h_a1) hq12) ?_
  refine ev_seg (o := 6) (nL := 2) (q := 130) (xs := [(.aload_n 0, 1, 0, 0, .null), (.getfield 58, 3, 6, 12, .ref 3), (.aload_n 1, 1, 1, 0, .null), (.getfield 58, 3, 6, 12, .ref 3)]) (L' := [some (.ref a0), some (.ref a1)]) (st' := [.ref (jSr jR0 a1 12), .ref (jSr jR0 a0 12)]) (w' := q12) (g := []) (K := [((jSr jR0 a1 12), 3), (a1, 6), ((jSr jR0 a0 12), 3), (a0, 6)]) (by decide +kernel) rfl rfl rfl rfl (jk1 (kt_6_12 h_a1) (jk1 h_a1 (jk1 (kt_6_12 h_a0) (jk1 h_a0 jk0)))) ?_
  obtain ⟨q13, hq13, h⟩ := jbe h
  refine ev_callV (ci := 3) (a := (jSr jR0 a0 12)) (y2 := y_Rows_copy) (o := 6) (idx := 123) (d2 := D_Rows_copy) (n := 1) (mc2 := 0) (ms2 := 0) (As := [.ref (jSr jR0 a1 12)]) (st := []) (res2 := (none, jR0, q13)) (by decide +kernel) rfl lk_6_123 mo_Rows_copy mv_Rows_copy ⟨Nat.le_of_ble_eq_true rfl, Nat.le_of_ble_eq_true rfl⟩ rfl rfl (kt_6_12 h_a0) (by decide) rfl (Nat.le_of_ble_eq_true rfl) ⟨Nat.le_refl _, Nat.le_refl _⟩ hG (e_Rows_copy hG (kt_6_12 h_a0) (kt_6_12 h_a1) hq13) ?_
  refine ev_seg (o := 6) (nL := 2) (q := 141) (xs := [(.aload_n 0, 1, 0, 0, .null), (.getfield 61, 3, 6, 13, .ref 3), (.aload_n 1, 1, 1, 0, .null), (.getfield 61, 3, 6, 13, .ref 3)]) (L' := [some (.ref a0), some (.ref a1)]) (st' := [.ref (jSr jR0 a1 13), .ref (jSr jR0 a0 13)]) (w' := q13) (g := []) (K := [((jSr jR0 a1 13), 3), (a1, 6), ((jSr jR0 a0 13), 3), (a0, 6)]) (by decide +kernel) rfl rfl rfl rfl (jk1 (kt_6_13 h_a1) (jk1 h_a1 (jk1 (kt_6_13 h_a0) (jk1 h_a0 jk0)))) ?_
  obtain ⟨q14, hq14, h⟩ := jbe h
  refine ev_callV (ci := 3) (a := (jSr jR0 a0 13)) (y2 := y_Rows_copy) (o := 6) (idx := 123) (d2 := D_Rows_copy) (n := 1) (mc2 := 0) (ms2 := 0) (As := [.ref (jSr jR0 a1 13)]) (st := []) (res2 := (none, jR0, q14)) (by decide +kernel) rfl lk_6_123 mo_Rows_copy mv_Rows_copy ⟨Nat.le_of_ble_eq_true rfl, Nat.le_of_ble_eq_true rfl⟩ rfl rfl (kt_6_13 h_a0) (by decide) rfl (Nat.le_of_ble_eq_true rfl) ⟨Nat.le_refl _, Nat.le_refl _⟩ hG (e_Rows_copy hG (kt_6_13 h_a0) (kt_6_13 h_a1) hq14) ?_
  refine ev_seg (o := 6) (nL := 2) (q := 152) (xs := [(.aload_n 0, 1, 0, 0, .null), (.getfield 64, 3, 6, 14, .ref 3), (.aload_n 1, 1, 1, 0, .null), (.getfield 64, 3, 6, 14, .ref 3)]) (L' := [some (.ref a0), some (.ref a1)]) (st' := [.ref (jSr jR0 a1 14), .ref (jSr jR0 a0 14)]) (w' := q14) (g := []) (K := [((jSr jR0 a1 14), 3), (a1, 6), ((jSr jR0 a0 14), 3), (a0, 6)]) (by decide +kernel) rfl rfl rfl rfl (jk1 (kt_6_14 h_a1) (jk1 h_a1 (jk1 (kt_6_14 h_a0) (jk1 h_a0 jk0)))) ?_
  obtain ⟨q15, hq15, h⟩ := jbe h
  refine ev_callV (ci := 3) (a := (jSr jR0 a0 14)) (y2 := y_Rows_copy) (o := 6) (idx := 123) (d2 := D_Rows_copy) (n := 1) (mc2 := 0) (ms2 := 0) (As := [.ref (jSr jR0 a1 14)]) (st := []) (res2 := (none, jR0, q15)) (by decide +kernel) rfl lk_6_123 mo_Rows_copy mv_Rows_copy ⟨Nat.le_of_ble_eq_true rfl, Nat.le_of_ble_eq_true rfl⟩ rfl rfl (kt_6_14 h_a0) (by decide) rfl (Nat.le_of_ble_eq_true rfl) ⟨Nat.le_refl _, Nat.le_refl _⟩ hG (e_Rows_copy hG (kt_6_14 h_a0) (kt_6_14 h_a1) hq15) ?_
  refine ev_seg (o := 6) (nL := 2) (q := 163) (xs := [(.aload_n 0, 1, 0, 0, .null), (.getfield 67, 3, 6, 15, .ref 3), (.aload_n 1, 1, 1, 0, .null), (.getfield 67, 3, 6, 15, .ref 3)]) (L' := [some (.ref a0), some (.ref a1)]) (st' := [.ref (jSr jR0 a1 15), .ref (jSr jR0 a0 15)]) (w' := q15) (g := []) (K := [((jSr jR0 a1 15), 3), (a1, 6), ((jSr jR0 a0 15), 3), (a0, 6)]) (by decide +kernel) rfl rfl rfl rfl (jk1 (kt_6_15 h_a1) (jk1 h_a1 (jk1 (kt_6_15 h_a0) (jk1 h_a0 jk0)))) ?_
  obtain ⟨q16, hq16, h⟩ := jbe h
  refine ev_callV (ci := 3) (a := (jSr jR0 a0 15)) (y2 := y_Rows_copy) (o := 6) (idx := 123) (d2 := D_Rows_copy) (n := 1) (mc2 := 0) (ms2 := 0) (As := [.ref (jSr jR0 a1 15)]) (st := []) (res2 := (none, jR0, q16)) (by decide +kernel) rfl lk_6_123 mo_Rows_copy mv_Rows_copy ⟨Nat.le_of_ble_eq_true rfl, Nat.le_of_ble_eq_true rfl⟩ rfl rfl (kt_6_15 h_a0) (by decide) rfl (Nat.le_of_ble_eq_true rfl) ⟨Nat.le_refl _, Nat.le_refl _⟩ hG (e_Rows_copy hG (kt_6_15 h_a0) (kt_6_15 h_a1) hq16) ?_
  refine ev_seg (o := 6) (nL := 2) (q := 174) (xs := [(.aload_n 0, 1, 0, 0, .null), (.getfield 70, 3, 6, 16, .ref 3), (.aload_n 1, 1, 1, 0, .null), (.getfield 70, 3, 6, 16, .ref 3)]) (L' := [some (.ref a0), some (.ref a1)]) (st' := [.ref (jSr jR0 a1 16), .ref (jSr jR0 a0 16)]) (w' := q16) (g := []) (K := [((jSr jR0 a1 16), 3), (a1, 6), ((jSr jR0 a0 16), 3), (a0, 6)]) (by decide +kernel) rfl rfl rfl rfl (jk1 (kt_6_16 h_a1) (jk1 h_a1 (jk1 (kt_6_16 h_a0) (jk1 h_a0 jk0)))) ?_
  obtain ⟨q17, hq17, h⟩ := jbe h
  refine ev_callV (ci := 3) (a := (jSr jR0 a0 16)) (y2 := y_Rows_copy) (o := 6) (idx := 123) (d2 := D_Rows_copy) (n := 1) (mc2 := 0) (ms2 := 0) (As := [.ref (jSr jR0 a1 16)]) (st := []) (res2 := (none, jR0, q17)) (by decide +kernel) rfl lk_6_123 mo_Rows_copy mv_Rows_copy ⟨Nat.le_of_ble_eq_true rfl, Nat.le_of_ble_eq_true rfl⟩ rfl rfl (kt_6_16 h_a0) (by decide) rfl (Nat.le_of_ble_eq_true rfl) ⟨Nat.le_refl _, Nat.le_refl _⟩ hG (e_Rows_copy hG (kt_6_16 h_a0) (kt_6_16 h_a1) hq17) ?_
  refine ev_seg (o := 6) (nL := 2) (q := 185) (xs := [(.aload_n 0, 1, 0, 0, .null), (.getfield 73, 3, 6, 17, .ref 3), (.aload_n 1, 1, 1, 0, .null), (.getfield 73, 3, 6, 17, .ref 3)]) (L' := [some (.ref a0), some (.ref a1)]) (st' := [.ref (jSr jR0 a1 17), .ref (jSr jR0 a0 17)]) (w' := q17) (g := []) (K := [((jSr jR0 a1 17), 3), (a1, 6), ((jSr jR0 a0 17), 3), (a0, 6)]) (by decide +kernel) rfl rfl rfl rfl (jk1 (kt_6_17 h_a1) (jk1 h_a1 (jk1 (kt_6_17 h_a0) (jk1 h_a0 jk0)))) ?_
  obtain ⟨q18, hq18, h⟩ := jbe h
  refine ev_callV (ci := 3) (a := (jSr jR0 a0 17)) (y2 := y_Rows_copy) (o := 6) (idx := 123) (d2 := D_Rows_copy) (n := 1) (mc2 := 0) (ms2 := 0) (As := [.ref (jSr jR0 a1 17)]) (st := []) (res2 := (none, jR0, q18)) (by decide +kernel) rfl lk_6_123 mo_Rows_copy mv_Rows_copy ⟨Nat.le_of_ble_eq_true rfl, Nat.le_of_ble_eq_true rfl⟩ rfl rfl (kt_6_17 h_a0) (by decide) rfl (Nat.le_of_ble_eq_true rfl) ⟨Nat.le_refl _, Nat.le_refl _⟩ hG (e_Rows_copy hG (kt_6_17 h_a0) (kt_6_17 h_a1) hq18) ?_
  refine ev_seg (o := 6) (nL := 2) (q := 196) (xs := [(.aload_n 0, 1, 0, 0, .null), (.getfield 76, 3, 6, 18, .ref 3), (.aload_n 1, 1, 1, 0, .null), (.getfield 76, 3, 6, 18, .ref 3)]) (L' := [some (.ref a0), some (.ref a1)]) (st' := [.ref (jSr jR0 a1 18), .ref (jSr jR0 a0 18)]) (w' := q18) (g := []) (K := [((jSr jR0 a1 18), 3), (a1, 6), ((jSr jR0 a0 18), 3), (a0, 6)]) (by decide +kernel) rfl rfl rfl rfl (jk1 (kt_6_18 h_a1) (jk1 h_a1 (jk1 (kt_6_18 h_a0) (jk1 h_a0 jk0)))) ?_
  obtain ⟨q19, hq19, h⟩ := jbe h
  refine ev_callV (ci := 3) (a := (jSr jR0 a0 18)) (y2 := y_Rows_copy) (o := 6) (idx := 123) (d2 := D_Rows_copy) (n := 1) (mc2 := 0) (ms2 := 0) (As := [.ref (jSr jR0 a1 18)]) (st := []) (res2 := (none, jR0, q19)) (by decide +kernel) rfl lk_6_123 mo_Rows_copy mv_Rows_copy ⟨Nat.le_of_ble_eq_true rfl, Nat.le_of_ble_eq_true rfl⟩ rfl rfl (kt_6_18 h_a0) (by decide) rfl (Nat.le_of_ble_eq_true rfl) ⟨Nat.le_refl _, Nat.le_refl _⟩ hG (e_Rows_copy hG (kt_6_18 h_a0) (kt_6_18 h_a1) hq19) ?_
  cases h
  exact ev_vret (by decide +kernel) rfl rfl rfl rfl
def f_Count_image (w : jW) : Option (Int32 × jW) :=
  Option.bind (f_State_copy 38 3 w) fun q1 =>
  some ((q1.1 3 0), q1)
set_option maxRecDepth 20000 in
theorem e_Count_image {l : Launch} {G : jG} (hG : jX G) {w : jW} {z : (Int32 × jW)} (h : f_Count_image w = some z) : Ct l G y_Count_image D_Count_image 0 0 [.ref 2] jR0 w (some (.int z.1), jR0, z.2) := by
  rw [f_Count_image] at h
  refine Ct.of (L := [some (.ref 2)]) (by decide) (Nat.le_of_ble_eq_true rfl) rfl ?_
  refine ev_seg (o := 9) (nL := 1) (q := 8) (xs := [(.aload_n 0, 1, 0, 0, .null), (.getfield 16, 3, 9, 1, .ref 6), (.aload_n 0, 1, 0, 0, .null), (.getfield 12, 3, 9, 0, .ref 6)]) (L' := [some (.ref 2)]) (st' := [.ref 3, .ref 38]) (w' := w) (g := []) (K := [(3, 6), (2, 9), (38, 6), (2, 9)]) (by decide +kernel) rfl rfl rfl rfl (jk1 kz_3 (jk1 kz_2 (jk1 kz_38 (jk1 kz_2 jk0)))) ?_
  obtain ⟨q1, hq1, h⟩ := jbe h
  refine ev_callV (ci := 6) (a := 38) (y2 := y_State_copy) (o := 9) (idx := 310) (d2 := D_State_copy) (n := 1) (mc2 := 0) (ms2 := 0) (As := [.ref 3]) (st := []) (res2 := (none, jR0, q1)) (by decide +kernel) rfl lk_9_310 mo_State_copy mv_State_copy ⟨Nat.le_of_ble_eq_true rfl, Nat.le_of_ble_eq_true rfl⟩ rfl rfl kz_38 (by decide) rfl (Nat.le_of_ble_eq_true rfl) ⟨Nat.le_refl _, Nat.le_refl _⟩ hG (e_State_copy hG kz_38 kz_3 hq1) ?_
  refine ev_seg (o := 9) (nL := 1) (q := 18) (xs := [(.aload_n 0, 1, 0, 0, .null), (.getfield 12, 3, 9, 0, .ref 6), (.getfield 119, 3, 6, 0, .int 0)]) (L' := [some (.ref 2)]) (st' := [.int (q1.1 3 0)]) (w' := q1) (g := []) (K := [(3, 6), (3, 6), (2, 9)]) (by decide +kernel) rfl rfl rfl rfl (jk1 kz_3 (jk1 kz_3 (jk1 kz_2 jk0))) ?_
  cases h
  exact ev_iret (by decide +kernel) rfl rfl rfl rfl
def f_Count_back (w : jW) : Option (Int32 × jW) :=
  Option.bind (f_State_copy 3 38 w) fun q1 =>
  some ((q1.1 3 0), q1)
set_option maxRecDepth 20000 in
theorem e_Count_back {l : Launch} {G : jG} (hG : jX G) {w : jW} {z : (Int32 × jW)} (h : f_Count_back w = some z) : Ct l G y_Count_back D_Count_back 0 0 [.ref 2] jR0 w (some (.int z.1), jR0, z.2) := by
  rw [f_Count_back] at h
  refine Ct.of (L := [some (.ref 2)]) (by decide) (Nat.le_of_ble_eq_true rfl) rfl ?_
  refine ev_seg (o := 9) (nL := 1) (q := 8) (xs := [(.aload_n 0, 1, 0, 0, .null), (.getfield 12, 3, 9, 0, .ref 6), (.aload_n 0, 1, 0, 0, .null), (.getfield 16, 3, 9, 1, .ref 6)]) (L' := [some (.ref 2)]) (st' := [.ref 38, .ref 3]) (w' := w) (g := []) (K := [(38, 6), (2, 9), (3, 6), (2, 9)]) (by decide +kernel) rfl rfl rfl rfl (jk1 kz_38 (jk1 kz_2 (jk1 kz_3 (jk1 kz_2 jk0)))) ?_
  obtain ⟨q1, hq1, h⟩ := jbe h
  refine ev_callV (ci := 6) (a := 3) (y2 := y_State_copy) (o := 9) (idx := 310) (d2 := D_State_copy) (n := 1) (mc2 := 0) (ms2 := 0) (As := [.ref 38]) (st := []) (res2 := (none, jR0, q1)) (by decide +kernel) rfl lk_9_310 mo_State_copy mv_State_copy ⟨Nat.le_of_ble_eq_true rfl, Nat.le_of_ble_eq_true rfl⟩ rfl rfl kz_3 (by decide) rfl (Nat.le_of_ble_eq_true rfl) ⟨Nat.le_refl _, Nat.le_refl _⟩ hG (e_State_copy hG kz_3 kz_38 hq1) ?_
  refine ev_seg (o := 9) (nL := 1) (q := 18) (xs := [(.aload_n 0, 1, 0, 0, .null), (.getfield 12, 3, 9, 0, .ref 6), (.getfield 119, 3, 6, 0, .int 0)]) (L' := [some (.ref 2)]) (st' := [.int (q1.1 3 0)]) (w' := q1) (g := []) (K := [(3, 6), (3, 6), (2, 9)]) (by decide +kernel) rfl rfl rfl rfl (jk1 kz_3 (jk1 kz_3 (jk1 kz_2 jk0))) ?_
  cases h
  exact ev_iret (by decide +kernel) rfl rfl rfl rfl

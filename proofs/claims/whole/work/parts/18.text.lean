abbrev yt_len : jM := (⟨"java/lang/String", "length", "()I"⟩, prog_14_method_54_code, 1, some .int)
theorem mt_len : jMo yt_len 0 := ⟨jmt3 (List.mem_of_getElem? (i := 52) rfl) rfl, jmem 114 (by decide +kernel) (by decide +kernel), ⟨by decide, by decide⟩, by decide +kernel⟩
theorem vt_len : Cond.instanceMethod yt_len.1 ∈ jTbl ∧ Cond.selects yt_len.1.cls yt_len.1 yt_len.1 ∈ jTbl := ⟨jmem 631 (by decide +kernel) (by decide +kernel), jmem 632 (by decide +kernel) (by decide +kernel)⟩
abbrev yt_cod : jM := (⟨"java/lang/String", "coder", "()B"⟩, prog_14_method_152_code, 1, some .byte)
theorem mt_cod : jMo yt_cod 0 := ⟨jmt3 (List.mem_of_getElem? (i := 56) rfl) rfl, jmem 114 (by decide +kernel) (by decide +kernel), ⟨by decide, by decide⟩, by decide +kernel⟩
theorem vt_cod : Cond.instanceMethod yt_cod.1 ∈ jTbl ∧ Cond.selects yt_cod.1.cls yt_cod.1 yt_cod.1 ∈ jTbl := ⟨jmem 635 (by decide +kernel) (by decide +kernel), jmem 636 (by decide +kernel) (by decide +kernel)⟩
abbrev yt_chr : jM := (⟨"java/lang/String", "charAt", "(I)C"⟩, prog_14_method_56_code, 2, some .char)
theorem mt_chr : jMo yt_chr 1 := ⟨jmt3 (List.mem_of_getElem? (i := 62) rfl) rfl, jmem 114 (by decide +kernel) (by decide +kernel), ⟨by decide, by decide⟩, by decide +kernel⟩
theorem vt_chr : Cond.instanceMethod yt_chr.1 ∈ jTbl ∧ Cond.selects yt_chr.1.cls yt_chr.1 yt_chr.1 ∈ jTbl := ⟨jmem 641 (by decide +kernel) (by decide +kernel), jmem 642 (by decide +kernel) (by decide +kernel)⟩
abbrev yt_lat : jM := (⟨"java/lang/String", "isLatin1", "()Z"⟩, prog_14_method_154_code, 1, some .boolean)
theorem mt_lat : jMo yt_lat 0 := ⟨jmt3 (List.mem_of_getElem? (i := 66) rfl) rfl, jmem 114 (by decide +kernel) (by decide +kernel), ⟨by decide, by decide⟩, by decide +kernel⟩
theorem vt_lat : Cond.instanceMethod yt_lat.1 ∈ jTbl ∧ Cond.selects yt_lat.1.cls yt_lat.1 yt_lat.1 ∈ jTbl := ⟨jmem 645 (by decide +kernel) (by decide +kernel), jmem 646 (by decide +kernel) (by decide +kernel)⟩
abbrev yt_lch : jM := (⟨"java/lang/StringLatin1", "charAt", "([BI)C"⟩, prog_15_method_2_code, 2, some .char)
theorem mt_lch : jMo yt_lch 2 := ⟨jmt3 (List.mem_of_getElem? (i := 69) rfl) rfl, jmem 115 (by decide +kernel) (by decide +kernel), ⟨by decide, by decide⟩, by decide +kernel⟩
theorem st_lch : Cond.static yt_lch.1 ∈ jTbl := jmem 649 (by decide +kernel) (by decide +kernel)
abbrev yt_cki : jM := (⟨"java/lang/String", "checkIndex", "(II)V"⟩, prog_14_method_155_code, 2, none)
theorem mt_cki : jMo yt_cki 2 := ⟨jmt3 (List.mem_of_getElem? (i := 72) rfl) rfl, jmem 114 (by decide +kernel) (by decide +kernel), ⟨by decide, by decide⟩, by decide +kernel⟩
theorem st_cki : Cond.static yt_cki.1 ∈ jTbl := jmem 652 (by decide +kernel) (by decide +kernel)
abbrev yt_pck : jM := (⟨"jdk/internal/util/Preconditions", "checkIndex", "(IILjava/util/function/BiFunction;)I"⟩, prog_18_method_11_code, 3, some .int)
theorem mt_pck : jMo yt_pck 3 := ⟨jmt3 (List.mem_of_getElem? (i := 77) rfl) rfl, jmem 116 (by decide +kernel) (by decide +kernel), ⟨by decide, by decide⟩, by decide +kernel⟩
theorem st_pck : Cond.static yt_pck.1 ∈ jTbl := jmem 657 (by decide +kernel) (by decide +kernel)
theorem lt_335 : Cond.methodLink "java/lang/String" 335 yt_cod.1 ∈ jTbl := jmem 634 (by decide +kernel) (by decide +kernel)
theorem lt_492 : Cond.methodLink "java/lang/String" 492 yt_lat.1 ∈ jTbl := jmem 644 (by decide +kernel) (by decide +kernel)
theorem lt_495 : Cond.methodLink "java/lang/String" 495 yt_lch.1 ∈ jTbl := jmem 648 (by decide +kernel) (by decide +kernel)
theorem lt_9 : Cond.methodLink "java/lang/StringLatin1" 9 yt_cki.1 ∈ jTbl := jmem 651 (by decide +kernel) (by decide +kernel)
theorem lt_1059 : Cond.methodLink "java/lang/String" 1059 yt_pck.1 ∈ jTbl := jmem 656 (by decide +kernel) (by decide +kernel)
theorem ft_38 : Cond.fieldLink "java/lang/String" 38 "java/lang/String" "COMPACT_STRINGS" "Z" ∈ jTbl := jmem 638 (by decide +kernel) (by decide +kernel)
theorem ft_1053 : Cond.fieldLink "java/lang/String" 1053 "jdk/internal/util/Preconditions" "SIOOBE_FORMATTER" "Ljava/util/function/BiFunction;" ∈ jTbl := jmem 654 (by decide +kernel) (by decide +kernel)
theorem ft_9 : Cond.fieldLink "java/lang/String" 9 "java/lang/String" "value" "[B" ∈ jTbl := jmem 1671 (by decide +kernel) (by decide +kernel)
theorem ft_15 : Cond.fieldLink "java/lang/String" 15 "java/lang/String" "coder" "B" ∈ jTbl := jmem 1672 (by decide +kernel) (by decide +kernel)
def jwd (k : Nat) : Int32 := jwb.getD k 0
section JTX
variable {l : Launch} {G : jG} {r : jS} {w : jW}
theorem jcwV {R : Room} {s : State} {args : Array Value} {y y2 : jM} {own : String} {idx n d2 : Nat} (hts : ∀ x ∈ jTs y, x.before args s = true) (hl : Cond.methodLink own idx y2.1 ∈ jTbl) (hy2 : jMo y2 n) (hy3 : Cond.instanceMethod y2.1 ∈ jTbl ∧ Cond.selects y2.1.cls y2.1 y2.1 ∈ jTbl) (hR : d2 + 1 ≤ R.frames ∧ 8 + (y2.2.2.1 + 11) + 64 * d2 ≤ R.locals) : CallW R s args own y2.1.cls idx y2.1 y2.2.1 y2.2.2.1 y2.2.2.2 (jTs y2) (jrm d2 0 0) 0 0 n := by
  obtain ⟨g1, g2, g3, g4⟩ := hy2
  exact ⟨⟨rfl, rfl, hR.1, hR.2, pay_in hts (jgoodIn g1), List.mem_cons_self, hts _ (jTs_in g1), hts _ (jTs_in g2), g3, fun sig h => by rw [h] at g4; exact (Option.some.inj g4).symm, hts _ (jTs_in hl)⟩, hts _ (jTs_in hy3.1), hts _ (jTs_in hy3.2)⟩
theorem jcwS {R : Room} {s : State} {args : Array Value} {y y2 : jM} {own : String} {idx n d2 : Nat} (hts : ∀ x ∈ jTs y, x.before args s = true) (hl : Cond.methodLink own idx y2.1 ∈ jTbl) (hy2 : jMo y2 n) (hy3 : Cond.static y2.1 ∈ jTbl) (hR : d2 + 1 ≤ R.frames ∧ 8 + (y2.2.2.1 + 11) + 64 * d2 ≤ R.locals) : CallB R s args own idx y2.1 y2.2.1 y2.2.2.1 y2.2.2.2 (jTs y2) (jrm d2 0 0) 0 0 n ∧ (Cond.static y2.1).before args s = true := by
  obtain ⟨g1, g2, g3, g4⟩ := hy2
  exact ⟨⟨rfl, rfl, hR.1, hR.2, pay_in hts (jgoodIn g1), List.mem_cons_self, hts _ (jTs_in g1), hts _ (jTs_in g2), g3, fun sig h => by rw [h] at g4; exact (Option.some.inj g4).symm, hts _ (jTs_in hl)⟩, hts _ (jTs_in hy3)⟩
/-- a contract on concrete arguments -/
def jCt (l : Launch) (G : jG) (y : jM) (d : Nat) (av : List Value) (Xp : State → Prop) (r : jS) (w : jW) (v : Option Value) : Prop :=
  Met l y.1 (jTs y) (jrm d 0 0) (fun a U => a = av.toArray ∧ jWd G r w U.heap ∧ jK G U ∧ Xp U) (jQ G (v, r, w)) 0 0 (fun q => (jH0 G).size ≤ q)
theorem jCt.of {y : jM} {d : Nat} {av : List Value} {Xp : State → Prop} {v : Option Value} (hy : plainName y.1.cls = true) (ha : (lg_sl av).length ≤ y.2.2.1)
    (k : ∀ (p : Program) (e : Env) (s : State) (m : MethodId) (args : Array Value) (below : List Frame) (meth : Method) (c : Code) (ls : Array Slot), p.tables.exec = Jvm.exec → c.code = y.2.1 → c.maxLocals = y.2.2.1 → meth.sig.returnType = y.2.2.2 → meth.locks = false → s.vm.findClass y.1.cls = some m.cls → (∀ x ∈ jTs y, x.before args s = true) → jK G s → Xp s → jWd G r w s.heap → lv_has ls y.2.2.1 (lv_args 0 av) →
      W p l e (jrm d 0 0) s m args below meth c s.heap [] 0 0 (MQ below (jQ G (v, r, w)) args s 0 0 (fun q => (jH0 G).size ≤ q)) (F0 m 0 ls [])) : jCt l G y d av Xp r w v := by
  refine Met.ofW (cc := y.2.1) (maxL := y.2.2.1) (ret := y.2.2.2) hy rfl ?_
  intro p e s m args below meth c s₁ B hml hv
  obtain ⟨rfl, hW, hK, hX⟩ := hv
  have hts := atoms_spec (ws := jTs y) B.pre
  rw [lg_entry_eq]
  exact k p e s m _ below meth c _ B.exec B.bytes hml B.returns B.notSynchronized (findClass_of_methodNamed B.named) hts hK hX hW (lv_entry av ha)
def jXm (Xp : State → Prop) : Prop := (∀ u U : State, u.vm = U.vm → Xp u → Xp U) ∧ ∀ s U : State, s.WarmedH U.vm → Xp s → Xp U
theorem jblind2 (hG : jX G) {Xp : State → Prop} (hX : jXm Xp) (av : List Value) : FrameBlind (fun a U => a = av.toArray ∧ jWd G r w U.heap ∧ jK G U ∧ Xp U) := fun a U g mk q => ⟨q.1, q.2.1, jK.same (u := U) (U := U.calling g mk a) hG rfl q.2.2.1, hX.1 U (U.calling g mk a) rfl q.2.2.2⟩
theorem jcallW {p : Program} {e : Env} {R : Room} {s : State} {m : MethodId} {args : Array Value} {below : List Frame} {meth : Method} {c : Code} {H : Heap} {locs : List Loc} {ls : Array Slot} {pc c0 s0 : Nat} {Q : State → Prop} {st0 rest : List Value} {v : Option Value} {aa : Array Value}
    (hrun : va_Run p l e R s m args below meth c H locs c0 s0 0 0 (F0 m pc ls st0) rest (jQ G (v, r, w) aa) (fun q => (jH0 G).size ≤ q)) (hlo : ∀ q ∈ locs, (jH0 G).size ≤ q.base)
    (k : ∀ (H1 : Heap) (locs1 : List Loc), jWd G r w H1 → (∀ q ∈ locs1, (jH0 G).size ≤ q.base) → W p l e R s m args below meth c H1 locs1 c0 s0 Q (F0 m (pc + 3) ls ((v.map (jcv G)).toList ++ rest))) : W p l e R s m args below meth c H locs c0 s0 Q (F0 m pc ls st0) := by
  intro T hT X
  obtain ⟨v', st₀, t, T', L2, h0, X', hL2, e1, e2, ⟨hv, hWt⟩, hst⟩ := hrun T hT X
  have hv2 : v' = v.map (jcv G) := by
    have := hv
    simp only [Outcome.returned.injEq] at this
    exact this
  rw [← e1] at hWt
  obtain ⟨t2, a1, b1⟩ := k T'.heap (locs ++ L2) hWt (fun q hq => (List.mem_append.mp hq).elim (hlo q) (hL2 q)) T' rfl X'
  refine ⟨t2, hst t2 ?_, b1⟩
  rw [hv2]; exact a1
theorem jgetO {p : Program} {e : Env} {R : Room} {s : State} {m : MethodId} {args : Array Value} {below : List Frame} {meth : Method} {c : Code} {H : Heap} {locs : List Loc} {ls : Array Slot} {pc c0 s0 : Nat} {Q : State → Prop} {rest : List Value} {cc : ByteArray} {n d : String} {v : Value} {q idx : Nat} {A : Nat → Prop} (hx : p.tables.exec = Jvm.exec) (hb : c.code = cc) (ho : s.vm.findClass "java/lang/String" = some m.cls) (hE : va_OF "java/lang/String" n d v q A s (jH0 G)) (hW : jWd G r w H) (hl : (Cond.fieldLink "java/lang/String" idx "java/lang/String" n d).before args s = true) (hd : decode cc pc = .ok (.getfield idx, 3))
    (k : W p l e R s m args below meth c H locs c0 s0 Q (F0 m (pc + 3) ls (v :: rest))) : W p l e R s m args below meth c H locs c0 s0 Q (F0 m pc ls (.ref q :: rest)) := by
  obtain ⟨cf, kk, fi, f, cell, h1, h2, h3, h4, h5, h6⟩ := hE
  exact W.getf hx hb ho hl h1 h2 (by rw [hW.2.1 q (Array.getElem?_eq_some_iff.mp h3).1]; exact h3) h4 (v := v) h5 rfl rfl hd k
theorem jgetZ {p : Program} {e : Env} {R : Room} {s : State} {m : MethodId} {args : Array Value} {below : List Frame} {meth : Method} {c : Code} {H : Heap} {locs : List Loc} {ls : Array Slot} {pc c0 s0 : Nat} {Q : State → Prop} {rest : List Value} {cc : ByteArray} {own C n d : String} {v : Value} {idx : Nat} {A : Nat → Prop} (hx : p.tables.exec = Jvm.exec) (hb : c.code = cc) (ho : s.vm.findClass own = some m.cls) (hE : va_Z C n d v A s (jH0 G)) (hW : jWd G r w H) (hl : (Cond.fieldLink own idx C n d).before args s = true) (hd : decode cc pc = .ok (.getstatic idx, 3))
    (k : W p l e R s m args below meth c H locs c0 s0 Q (F0 m (pc + 3) ls (v :: rest))) : W p l e R s m args below meth c H locs c0 s0 Q (F0 m pc ls rest) := by
  obtain ⟨cf, kf, fi, f, a, cell, h1, h2, h3, h4, h5, h6, h7, h8⟩ := hE
  exact W.gets hx hb ho hl h1 h2 h3 h4 (by rw [hW.2.1 a (Array.getElem?_eq_some_iff.mp h5).1]; exact h5) (fun e => by rw [e] at h6; cases h6) h7 rfl hd k
theorem jstr_f {s : State} (h : jstr G s) : ∃ av : Nat, va_O "java/lang/String" (jad G 1) (fun q => (jH0 G).size ≤ q) s (jH0 G) ∧ va_OF "java/lang/String" "coder" "B" (.int 0) (jad G 1) (fun q => (jH0 G).size ≤ q) s (jH0 G) ∧ va_OF "java/lang/String" "value" "[B" (.ref av) (jad G 1) (fun q => (jH0 G).size ≤ q) s (jH0 G) ∧ va_T .byte av 97 (fun j => .int (jwb.getD j 0)) (fun q => (jH0 G).size ≤ q) s (jH0 G) := by
  obtain ⟨-, ⟨adV, h2, -⟩, -⟩ := h
  exact ⟨adV 0, h2 0 (by decide)⟩
theorem jt_cod (hG : jX G) : jCt l G yt_cod 0 [.ref (jad G 1)] (fun _ => True) r w (some (.int 0)) := by
  refine jCt.of (by decide) (Nat.le_of_ble_eq_true rfl) ?_
  intro p e s m args below meth c ls hx hb hn hr hlk ho hts hK _ hW hl
  have hs := hG.2.2 s hK.2
  obtain ⟨av, g1, g2, g3, g4⟩ := jstr_f hs
  have hl : lv_has ls 1 [(0, .ref (jad G 1))] := hl
  refine jgetZ hx hb ho hs.2.2.1 hW (hts _ (jTs_in ft_38)) (by decide +kernel) ?_
  refine lv_if_eq (off := 10) (tgt := 13) hx hb (by decide +kernel) (by decide) (fun q => absurd q (by decide)) (fun _ => ?_)
  refine lv_aload_n (k := 0) hx hb (by decide +kernel) rfl (lv_at hl 0 rfl) ?_
  refine jgetO hx hb ho g2 hW (hts _ (jTs_in ft_15)) (by decide +kernel) ?_
  refine lv_goto (off := 4) (tgt := 14) hx hb (by decide +kernel) (by decide) ?_
  exact W.zret (v := 0) (ty := .byte) hx hb hr rfl (fun t ht _ => ⟨rfl, by rw [ht]; exact hW⟩) (fun q hq => by cases hq) (by decide +kernel) hlk
theorem jt_lat (hG : jX G) : jCt l G yt_lat 0 [.ref (jad G 1)] (fun _ => True) r w (some (.int 1)) := by
  refine jCt.of (by decide) (Nat.le_of_ble_eq_true rfl) ?_
  intro p e s m args below meth c ls hx hb hn hr hlk ho hts hK _ hW hl
  have hs := hG.2.2 s hK.2
  obtain ⟨av, g1, g2, g3, g4⟩ := jstr_f hs
  have hl : lv_has ls 1 [(0, .ref (jad G 1))] := hl
  refine jgetZ hx hb ho hs.2.2.1 hW (hts _ (jTs_in ft_38)) (by decide +kernel) ?_
  refine lv_if_eq (off := 14) (tgt := 17) hx hb (by decide +kernel) (by decide) (fun q => absurd q (by decide)) (fun _ => ?_)
  refine lv_aload_n (k := 0) hx hb (by decide +kernel) rfl (lv_at hl 0 rfl) ?_
  refine jgetO hx hb ho g2 hW (hts _ (jTs_in ft_15)) (by decide +kernel) ?_
  refine lv_if_ne (off := 7) (tgt := 17) hx hb (by decide +kernel) (by decide) (fun q => absurd rfl q) (fun _ => ?_)
  refine lv_iconst (n := 1) (v := 1) hx hb (by decide +kernel) (by decide) ?_
  refine lv_goto (off := 4) (tgt := 18) hx hb (by decide +kernel) (by decide) ?_
  exact W.zret (v := 1) (ty := .boolean) hx hb hr rfl (fun t ht _ => ⟨rfl, by rw [ht]; exact hW⟩) (fun q hq => by cases hq) (by decide +kernel) hlk
theorem jtrueX : jXm (fun _ => True) := ⟨fun _ _ _ _ => trivial, fun _ _ _ _ => trivial⟩
/-- a call of a method of the text -/
theorem jrunS {p : Program} {e : Env} {R : Room} {s : State} {m : MethodId} {args : Array Value} {below : List Frame} {meth : Method} {c : Code} {H : Heap} {locs : List Loc} {ls : Array Slot} {pc c0 s0 nL d2 n idx : Nat} {rest As : List Value} {y y2 : jM} {v : Option Value} {own : String} (hG : jX G) (hx : p.tables.exec = Jvm.exec) (hb : c.code = y.2.1) (hn : c.maxLocals = nL) (ho : s.vm.findClass own = some m.cls) (hts : ∀ x ∈ jTs y, x.before args s = true) (hK : jK G s) (hW : jWd G r w H) (hls : ls.size = nL)
    (hct : jCt l G y2 d2 (.ref (jad G 1) :: As) (fun _ => True) r w v) (hl : Cond.methodLink own idx y2.1 ∈ jTbl) (hy2 : jMo y2 n) (hy3 : Cond.instanceMethod y2.1 ∈ jTbl ∧ Cond.selects y2.1.cls y2.1 y2.1 ∈ jTbl) (hyc : y2.1.cls = "java/lang/String") (hR : d2 + 1 ≤ R.frames ∧ 8 + (y2.2.2.1 + 11) + 64 * d2 ≤ R.locals) (hn2 : As.length = n) (h8 : (rest.map fun v => v.category).sum ≤ 8) (hc : c0 ≤ R.cells ∧ s0 ≤ R.slots) (hd : decode y.2.1 pc = .ok (.invokevirtual idx, 3)) :
    va_Run p l e R s m args below meth c H locs c0 s0 0 0 (F0 m pc ls (As.reverse ++ .ref (jad G 1) :: rest)) rest (jQ G (v, r, w) (Value.ref (jad G 1) :: As).toArray) (fun q => (jH0 G).size ≤ q) := by
  obtain ⟨av, ⟨cell, g1, g2, g3, -⟩, -⟩ := jstr_f (hG.2.2 s hK.2)
  exact va_runV (b := jad G 1) (As := As) (nL := nL) (cc := y.2.1) ⟨hx, hb, hn, ho, hts⟩ hct (jcwV hts hl hy2 hy3 hR) ⟨jblind2 hG jtrueX _, ⟨cell, by rw [hW.2.1 _ (Array.getElem?_eq_some_iff.mp g1).1]; exact g1, g2, by rw [hyc]; exact g3⟩, fun U hU hw => ⟨rfl, by rw [hU]; exact hW, jK.warm hG hw hK, trivial⟩⟩ rfl hn2 hls rfl (lv_room h8) hd hc
theorem jt_len (hG : jX G) : jCt l G yt_len 1 [.ref (jad G 1)] (fun _ => True) r w (some (.int 97)) := by
  refine jCt.of (by decide) (Nat.le_of_ble_eq_true rfl) ?_
  intro p e s m args below meth c ls hx hb hn hr hlk ho hts hK _ hW hl
  have hs := hG.2.2 s hK.2
  obtain ⟨av, g1, g2, g3, cell, q1, q2, q3, q4, q5, q6, q7⟩ := jstr_f hs
  have hl : lv_has ls 1 [(0, .ref (jad G 1))] := hl
  refine lv_aload_n (k := 0) hx hb (by decide +kernel) rfl (lv_at hl 0 rfl) ?_
  refine jgetO hx hb ho g3 hW (hts _ (jTs_in ft_9)) (by decide +kernel) ?_
  refine W.alen (n := 97) hx hb (by rw [hW.2.1 _ (Array.getElem?_eq_some_iff.mp q1).1]; exact q1) q2 q5 rfl rfl (show decode yt_len.2.1 4 = .ok (.arraylength, 1) by decide +kernel) ?_
  show W p l e _ s m args below meth c _ _ _ _ _ (F0 m 5 ls [.int 97])
  refine lv_aload_n (k := 0) hx hb (by decide +kernel) rfl (lv_at hl 0 rfl) ?_
  refine jcallW (v := some (.int 0)) (jrunS (y := yt_len) (y2 := yt_cod) (As := []) (d2 := 0) (n := 0) (idx := 335) hG hx hb hn ho hts hK hW hl.1 (jt_cod hG) lt_335 mt_cod vt_cod rfl ⟨Nat.le_of_ble_eq_true rfl, Nat.le_of_ble_eq_true rfl⟩ rfl (Nat.le_of_ble_eq_true rfl) ⟨Nat.le_refl _, Nat.le_refl _⟩ (by decide +kernel)) (fun q hq => by cases hq) (fun H1 locs1 hW1 hlo1 => ?_)
  refine lv_ishr hx hb (by decide +kernel) ?_
  exact W.iret (v := 97 >>> ((0 : Int32) &&& 31)) hx hb hr (fun t ht _ => ⟨rfl, by rw [ht]; exact hW1⟩) hlo1 (by decide +kernel) hlk
theorem jt_pck {i : Int32} {q : Value} (hin : jin i 97 = true) : jCt l G yt_pck 0 [.int i, .int 97, q] (fun _ => q.category = 1) r w (some (.int i)) := by
  by_cases hq : q.category = 1
  · refine jCt.of (by decide) ?_ ?_
    · show (lg_sl [Value.int i, .int 97, q]).length ≤ 3
      cases q <;> first | (cases hq; done) | exact Nat.le_of_ble_eq_true rfl
    · intro p e s m args below meth c ls hx hb hn hr hlk ho hts hK _ hW hl
      have hl : lv_has ls 3 [(0, .int i), (1, .int 97), (2, q)] := by
        refine ⟨hl.1, hl.2.1, fun z hz => hl.2.2 z ?_⟩
        simpa [lv_args, Value.category] using hz
      have hi := jin_not hin
      refine lv_iload_n (k := 0) hx hb (by decide +kernel) rfl (lv_at hl 0 rfl) ?_
      refine lv_if_lt (off := 8) (tgt := 9) hx hb (by decide +kernel) (by decide) (fun z => absurd (Or.inl z) hi) (fun h0 => ?_)
      refine lv_iload_n (k := 0) hx hb (by decide +kernel) rfl (lv_at hl 0 rfl) ?_
      refine lv_iload_n (k := 1) hx hb (by decide +kernel) rfl (lv_at hl 1 rfl) ?_
      obtain ⟨j, hj, rfl⟩ := nI_of h0
      have hj97 : j < 97 := by
        rw [nI_clamp hj] at hi
        omega
      refine lv_icmp_lt (off := 10) (tgt := 16) hx hb (by decide +kernel) (by decide) (fun _ => ?_) (fun z => absurd (show nI j < nI 97 from nI_lt hj97 (by omega)) z)
      refine lv_iload_n (k := 0) hx hb (by decide +kernel) rfl (lv_at hl 0 rfl) ?_
      exact W.iret hx hb hr (fun t ht _ => ⟨rfl, by rw [ht]; exact hW⟩) (fun z hz => by cases hz) (by decide +kernel) hlk
  · refine Met.ofW (cc := yt_pck.2.1) (maxL := yt_pck.2.2.1) (ret := yt_pck.2.2.2) (by decide) rfl ?_
    intro p e s m args below meth c s₁ B hml hv
    exact absurd hv.2.2.2 hq
theorem jrunT {p : Program} {e : Env} {R : Room} {s : State} {m : MethodId} {args : Array Value} {below : List Frame} {meth : Method} {c : Code} {H : Heap} {locs : List Loc} {ls : Array Slot} {pc c0 s0 nL d2 n idx : Nat} {rest As : List Value} {y y2 : jM} {v : Option Value} {own : String} {Xp : State → Prop} (hG : jX G) (hXp : jXm Xp) (hXs : Xp s) (hx : p.tables.exec = Jvm.exec) (hb : c.code = y.2.1) (hn : c.maxLocals = nL) (ho : s.vm.findClass own = some m.cls) (hts : ∀ x ∈ jTs y, x.before args s = true) (hK : jK G s) (hW : jWd G r w H) (hls : ls.size = nL)
    (hct : jCt l G y2 d2 As Xp r w v) (hl : Cond.methodLink own idx y2.1 ∈ jTbl) (hy2 : jMo y2 n) (hy3 : Cond.static y2.1 ∈ jTbl) (hR : d2 + 1 ≤ R.frames ∧ 8 + (y2.2.2.1 + 11) + 64 * d2 ≤ R.locals) (hn2 : As.length = n) (h8 : (rest.map fun v => v.category).sum ≤ 8) (hc : c0 ≤ R.cells ∧ s0 ≤ R.slots) (hd : decode y.2.1 pc = .ok (.invokestatic idx, 3)) :
    va_Run p l e R s m args below meth c H locs c0 s0 0 0 (F0 m pc ls (As.reverse ++ rest)) rest (jQ G (v, r, w) As.toArray) (fun q => (jH0 G).size ≤ q) :=
  va_runS (As := As) (nL := nL) (cc := y.2.1) ⟨hx, hb, hn, ho, hts⟩ hct (jcwS hts hl hy2 hy3 hR) ⟨jblind2 hG hXp _, fun U hU hw => ⟨rfl, by rw [hU]; exact hW, jK.warm hG hw hK, hXp.2 s U hw hXs⟩⟩ rfl hn2 hls rfl (lv_room h8) hd hc
theorem jt_cki (hG : jX G) {i : Int32} (hin : jin i 97 = true) : jCt l G yt_cki 1 [.int i, .int 97] (fun _ => True) r w none := by
  refine jCt.of (by decide) (Nat.le_of_ble_eq_true rfl) ?_
  intro p e s m args below meth c ls hx hb hn hr hlk ho hts hK _ hW hl
  have hs := hG.2.2 s hK.2
  have hl : lv_has ls 2 [(0, .int i), (1, .int 97)] := hl
  obtain ⟨q, hq, hZ⟩ : ∃ q : Value, q.category = 1 ∧ va_Z "jdk/internal/util/Preconditions" "SIOOBE_FORMATTER" "Ljava/util/function/BiFunction;" q (fun q => (jH0 G).size ≤ q) s (jH0 G) := by
    rcases hs.2.2.2 with h | ⟨t, h⟩
    · exact ⟨_, rfl, h⟩
    · exact ⟨_, rfl, h⟩
  refine lv_iload_n (k := 0) hx hb (by decide +kernel) rfl (lv_at hl 0 rfl) ?_
  refine lv_iload_n (k := 1) hx hb (by decide +kernel) rfl (lv_at hl 1 rfl) ?_
  refine jgetZ hx hb ho hZ hW (hts _ (jTs_in ft_1053)) (by decide +kernel) ?_
  refine jcallW (v := some (.int i)) (jrunT (y := yt_cki) (y2 := yt_pck) (As := [.int i, .int 97, q]) (rest := []) (d2 := 0) (n := 3) (idx := 1059) hG (Xp := fun _ => q.category = 1) ⟨fun _ _ _ h => h, fun _ _ _ h => h⟩ hq hx hb hn ho hts hK hW hl.1 (jt_pck hin) lt_1059 mt_pck st_pck ⟨Nat.le_of_ble_eq_true rfl, Nat.le_of_ble_eq_true rfl⟩ rfl (Nat.le_of_ble_eq_true rfl) ⟨Nat.le_refl _, Nat.le_refl _⟩ (by decide +kernel)) (fun q hq => by cases hq) (fun H1 locs1 hW1 hlo1 => ?_)
  refine lv_pop (va := .int i) hx hb (by decide +kernel) rfl ?_
  exact W.vret hx hb hr (fun t ht _ => ⟨rfl, by rw [ht]; exact hW1⟩) hlo1 (by decide +kernel) hlk
theorem jwd_all : ∀ k, k < 97 → (((jwb.getD k 0) &&& 255).toUInt32 % 65536).toInt32 = jwd k ∧ narrow .char (.int (jwd k)) = .int (jwd k) := by decide +kernel
theorem jt_lch (hG : jX G) {i : Int32} (hin : jin i 97 = true) (av : Nat) : jCt l G yt_lch 2 [.ref av, .int i] (fun U => va_T .byte av 97 (fun j => .int (jwb.getD j 0)) (fun q => (jH0 G).size ≤ q) U (jH0 G)) r w (some (.int (jwd i.toNatClampNeg))) := by
  refine jCt.of (by decide) (Nat.le_of_ble_eq_true rfl) ?_
  intro p e s m args below meth c ls hx hb hn hr hlk ho hts hK hT hW hl
  obtain ⟨cell, q1, q2, q3, q4, q5, q6, q7⟩ := hT
  have hl : lv_has ls 2 [(0, .ref av), (1, .int i)] := hl
  have hi := jin_not hin
  have hlt : i.toNatClampNeg < 97 := by omega
  refine lv_iload_n (k := 1) hx hb (by decide +kernel) rfl (lv_at hl 1 rfl) ?_
  refine lv_aload_n (k := 0) hx hb (by decide +kernel) rfl (lv_at hl 0 rfl) ?_
  refine W.alen (n := 97) hx hb (by rw [hW.2.1 _ (Array.getElem?_eq_some_iff.mp q1).1]; exact q1) q2 q5 rfl rfl (show decode yt_lch.2.1 2 = .ok (.arraylength, 1) by decide +kernel) ?_
  show W p l e _ s m args below meth c _ _ _ _ _ (F0 m 3 ls [.int 97, .int i])
  refine jcallW (v := none) (jrunT (y := yt_lch) (y2 := yt_cki) (As := [.int i, .int 97]) (rest := []) (d2 := 1) (n := 2) (idx := 9) hG jtrueX trivial hx hb hn ho hts hK hW hl.1 (jt_cki hG hin) lt_9 mt_cki st_cki ⟨Nat.le_of_ble_eq_true rfl, Nat.le_of_ble_eq_true rfl⟩ rfl (Nat.le_of_ble_eq_true rfl) ⟨Nat.le_refl _, Nat.le_refl _⟩ (by decide +kernel)) (fun q hq => by cases hq) (fun H1 locs1 hW1 hlo1 => ?_)
  refine lv_aload_n (k := 0) hx hb (by decide +kernel) rfl (lv_at hl 0 rfl) ?_
  refine lv_iload_n (k := 1) hx hb (by decide +kernel) rfl (lv_at hl 1 rfl) ?_
  refine W.bald (v := .int (jwb.getD i.toNatClampNeg 0)) hx hb (by rw [hW1.2.1 _ (Array.getElem?_eq_some_iff.mp q1).1]; exact q1) q2 q3 (fun z => z.elim (fun z => hi (Or.inl z)) (fun z => by omega)) (q6 _ hlt) rfl rfl (show decode yt_lch.2.1 8 = .ok (.baload, 1) by decide +kernel) ?_
  show W p l e _ s m args below meth c _ _ _ _ _ (F0 m 9 ls [.int (jwb.getD i.toNatClampNeg 0)])
  refine lv_sipush (n := 255) (v := 255) hx hb (by decide +kernel) (by decide +kernel) ?_
  refine lv_iand hx hb (by decide +kernel) ?_
  refine lv_i2c (v := jwd i.toNatClampNeg) hx hb (by decide +kernel) (jwd_all _ hlt).1 ?_
  exact W.zret (ty := .char) hx hb hr (jwd_all _ hlt).2 (fun t ht _ => ⟨rfl, by rw [ht]; exact hW1⟩) hlo1 (by decide +kernel) hlk
theorem jt_chr (hG : jX G) {i : Int32} (hin : jin i 97 = true) : jCt l G yt_chr 3 [.ref (jad G 1), .int i] (fun _ => True) r w (some (.int (jwd i.toNatClampNeg))) := by
  refine jCt.of (by decide) (Nat.le_of_ble_eq_true rfl) ?_
  intro p e s m args below meth c ls hx hb hn hr hlk ho hts hK _ hW hl
  have hs := hG.2.2 s hK.2
  obtain ⟨av, g1, g2, g3, g4⟩ := jstr_f hs
  have hl : lv_has ls 2 [(0, .ref (jad G 1)), (1, .int i)] := hl
  have hi := jin_not hin
  have hlt : i.toNatClampNeg < 97 := by omega
  refine lv_aload_n (k := 0) hx hb (by decide +kernel) rfl (lv_at hl 0 rfl) ?_
  refine jcallW (v := some (.int 1)) (jrunS (y := yt_chr) (y2 := yt_lat) (As := []) (rest := []) (d2 := 0) (n := 0) (idx := 492) hG hx hb hn ho hts hK hW hl.1 (jt_lat hG) lt_492 mt_lat vt_lat rfl ⟨Nat.le_of_ble_eq_true rfl, Nat.le_of_ble_eq_true rfl⟩ rfl (Nat.le_of_ble_eq_true rfl) ⟨Nat.le_refl _, Nat.le_refl _⟩ (by decide +kernel)) (fun q hq => by cases hq) (fun H1 locs1 hW1 hlo1 => ?_)
  refine lv_if_eq (x := 1) (off := 12) (tgt := 16) hx hb (by decide +kernel) (by decide) (fun q => absurd q (by decide)) (fun _ => ?_)
  refine lv_aload_n (k := 0) hx hb (by decide +kernel) rfl (lv_at hl 0 rfl) ?_
  refine jgetO hx hb ho g3 hW1 (hts _ (jTs_in ft_9)) (by decide +kernel) ?_
  refine lv_iload_n (k := 1) hx hb (by decide +kernel) rfl (lv_at hl 1 rfl) ?_
  refine jcallW (v := some (.int (jwd i.toNatClampNeg))) (jrunT (y := yt_chr) (y2 := yt_lch) (As := [.ref av, .int i]) (rest := []) (d2 := 2) (n := 2) (idx := 495) hG (Xp := fun U => va_T .byte av 97 (fun j => .int (jwb.getD j 0)) (fun q => (jH0 G).size ≤ q) U (jH0 G)) ⟨fun u U h hT => va_T.moved (by rw [h]; exact Vm.Alike.refl _) hT, fun s U h hT => va_T.moved h.alike hT⟩ g4 hx hb hn ho hts hK hW1 hl.1 (jt_lch hG hin av) lt_495 mt_lch st_lch ⟨Nat.le_of_ble_eq_true rfl, Nat.le_of_ble_eq_true rfl⟩ rfl (Nat.le_of_ble_eq_true rfl) ⟨Nat.le_refl _, Nat.le_refl _⟩ (by decide +kernel)) hlo1 (fun H2 locs2 hW2 hlo2 => ?_)
  exact W.zret (v := jwd i.toNatClampNeg) (ty := .char) hx hb hr (jwd_all _ hlt).2 (fun t ht _ => ⟨rfl, by rw [ht]; exact hW2⟩) hlo2 (by decide +kernel) hlk
variable {R : Room} {y : jM} {res : Option Value × jS × jW} {mc ms c0 s0 : Nat} {pc : Nat} {L : List (Option Value)} {st : List Value}
theorem ev_slen {o idx : Nat} (hd : decode y.2.1 pc = .ok (.invokevirtual idx, 3)) (hoo : y.1.cls = jcn o) (hl : Cond.methodLink (jcn o) idx ⟨"java/lang/String", "length", "()I"⟩ ∈ jTbl) (hG : jX G) (hfr : 5 ≤ R.frames) (hlc : 320 ≤ R.locals) (h8 : (st.map fun v => v.category).sum ≤ 8) (hc : c0 ≤ R.cells) (hs : s0 ≤ R.slots)
    (k : Ev l G R y res mc ms c0 s0 (pc + 3) L (.int 97 :: st) r w) : Ev l G R y res mc ms c0 s0 pc L (.ref 1 :: st) r w := by
  intro p e s m args below meth c H locs ls hx hb hn hr hlk ho hts hnm hK hW hlo hL
  exact jcallW (v := some (.int 97)) (jrunS (y := y) (y2 := yt_len) (As := []) (rest := st.map (jcv G)) (d2 := 1) (n := 0) (idx := idx) hG hx hb hn (by rw [← hoo]; exact ho) hts hK hW hL.1 (jt_len hG) hl mt_len vt_len rfl ⟨by omega, (show 8 + (1 + 11) + 64 * 1 ≤ R.locals by omega)⟩ rfl (by rw [jcatsum]; exact h8) ⟨hc, hs⟩ hd) hlo (fun H1 locs1 hW1 hlo1 => k p e s m args below meth c H1 locs1 ls hx hb hn hr hlk ho hts hnm hK hW1 hlo1 hL)
theorem ev_schar {o idx : Nat} {i : Int32} (hd : decode y.2.1 pc = .ok (.invokevirtual idx, 3)) (hoo : y.1.cls = jcn o) (hl : Cond.methodLink (jcn o) idx ⟨"java/lang/String", "charAt", "(I)C"⟩ ∈ jTbl) (hG : jX G) (hfr : 5 ≤ R.frames) (hlc : 320 ≤ R.locals) (h8 : (st.map fun v => v.category).sum ≤ 8) (hc : c0 ≤ R.cells) (hs : s0 ≤ R.slots) (hin : jin i 97 = true)
    (k : Ev l G R y res mc ms c0 s0 (pc + 3) L (.int (jwd (Int32.toNatClampNeg i)) :: st) r w) : Ev l G R y res mc ms c0 s0 pc L (.int i :: .ref 1 :: st) r w := by
  intro p e s m args below meth c H locs ls hx hb hn hr hlk ho hts hnm hK hW hlo hL
  exact jcallW (v := some (.int (jwd i.toNatClampNeg))) (jrunS (y := y) (y2 := yt_chr) (As := [.int i]) (rest := st.map (jcv G)) (d2 := 3) (n := 1) (idx := idx) hG hx hb hn (by rw [← hoo]; exact ho) hts hK hW hL.1 (jt_chr hG hin) hl mt_chr vt_chr rfl ⟨by omega, (show 8 + (2 + 11) + 64 * 3 ≤ R.locals by omega)⟩ rfl (by rw [jcatsum]; exact h8) ⟨hc, hs⟩ hd) hlo (fun H1 locs1 hW1 hlo1 => k p e s m args below meth c H1 locs1 ls hx hb hn hr hlk ho hts hnm hK hW1 hlo1 hL)
end JTX

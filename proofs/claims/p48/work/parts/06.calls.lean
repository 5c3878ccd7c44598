/-! CONTRACTS over the abstract world, and calls by them -/
def jrm (d : Nat × Nat) (mc ms : Nat) : Room := { frames := d.1, cells := mc, slots := ms, locals := d.2 }
def jX (G : jG) : Prop := (∀ u U : State, u.vm = U.vm → G.2.2.2.2.2 u → G.2.2.2.2.2 U) ∧ (∀ s U : State, s.WarmedH U.vm → G.2.2.2.2.2 s → G.2.2.2.2.2 U) ∧ True
theorem jK.same {G : jG} (hG : jX G) {u U : State} (h : u.vm = U.vm) (hK : jK G u) : jK G U := by
  refine ⟨?_, hG.1 u U h hK.2⟩
  have h1 : u.vm.Alike U.vm := by rw [h]; exact Vm.Alike.refl _
  exact va_K.moved h1 hK.1
theorem jK.warm {G : jG} (hG : jX G) {s U : State} (h : s.WarmedH U.vm) (hK : jK G s) : jK G U := ⟨va_K.moved h.alike hK.1, hG.2.1 s U h hK.2⟩
def jPc (G : jG) (av : List Value) (r : jS) (w : jW) : Array Value → State → Prop := fun v U => v = (av.map (jcv G)).toArray ∧ jWd G r w U.heap ∧ jK G U
/-- THE CONTRACT: called with av in the world (r, w), it ends with res; no room but its own -/
def Ct (l : Launch) (G : jG) (y : jM) (d : Nat × Nat) (mc ms : Nat) (av : List Value) (r : jS) (w : jW) (res : Option Value × jS × jW) : Prop :=
  Met l y.1 (jTs y) (jrm d mc ms) (jPc G av r w) (jQ G res) mc ms (fun q => (jH0 G).size ≤ q)
def jargs : List Value → List (Option Value)
  | [] => []
  | .long x :: vs => some (.long x) :: none :: jargs vs
  | .double x :: vs => some (.double x) :: none :: jargs vs
  | v :: vs => some v :: jargs vs
def jpad (n : Nat) (l : List (Option Value)) : List (Option Value) := l ++ List.replicate (n - l.length) none
theorem jargs_cons (v : Value) (vs : List Value) : jargs (v :: vs) = if v.category = 2 then some v :: none :: jargs vs else some v :: jargs vs := by
  cases v <;> simp [jargs, Value.category]
theorem jargs_len (G : jG) (av : List Value) : (lg_sl (av.map (jcv G))).length = (jargs av).length := by
  induction av with
  | nil => rfl
  | cons v vs ih =>
    rw [jargs_cons]
    have e : lg_sl ((v :: vs).map (jcv G)) = (if (jcv G v).category = 2 then [.val (jcv G v), .second] else [.val (jcv G v)]) ++ lg_sl (vs.map (jcv G)) := rfl
    rw [e, List.length_append, jcv_cat, ih]
    by_cases h : v.category = 2
    · rw [if_pos h, if_pos h]; simp; omega
    · rw [if_neg h, if_neg h]; simp; omega
theorem jargs_get (G : jG) (av : List Value) : ∀ (n i : Nat) (v : Value), (jargs av)[i]? = some (some v) → (n + i, jcv G v) ∈ lv_args n (av.map (jcv G)) := by
  induction av with
  | nil => intro n i v h; simp [jargs] at h
  | cons u us ih =>
    intro n i v h
    rw [jargs_cons] at h
    show _ ∈ lv_args n (jcv G u :: us.map (jcv G))
    unfold lv_args
    rw [jcv_cat]
    by_cases hc : u.category = 2
    · rw [if_pos hc] at h ⊢
      match i, h with
      | 0, h => cases h; exact List.mem_cons_self
      | 1, h => simp at h
      | i + 2, h =>
        have := ih (n + 2) i v (by simpa using h)
        rw [show n + (i + 2) = n + 2 + i by omega]
        exact List.mem_cons_of_mem _ this
    · rw [if_neg hc] at h ⊢
      match i, h with
      | 0, h => cases h; exact List.mem_cons_self
      | i + 1, h =>
        have := ih (n + 1) i v (by simpa using h)
        rw [show n + (i + 1) = n + 1 + i by omega]
        exact List.mem_cons_of_mem _ this
theorem jL_entry (G : jG) (av : List Value) {nL : Nat} (h : (jargs av).length ≤ nL) : jL G ((lg_sl (av.map (jcv G)) ++ List.replicate (nL - (lg_sl (av.map (jcv G))).length) Slot.unset).toArray) nL (jpad nL (jargs av)) := by
  obtain ⟨h1, h2, h3⟩ := lv_entry (av.map (jcv G)) (n := nL) (by rw [jargs_len]; exact h)
  refine ⟨h1, ?_, h2, fun i v hi => ?_⟩
  · unfold jpad
    rw [List.length_append, List.length_replicate]; omega
  · unfold jpad at hi
    by_cases hl : i < (jargs av).length
    · rw [List.getElem?_append_left hl] at hi
      have := jargs_get G av 0 i v hi
      rw [Nat.zero_add] at this
      exact h3 _ this
    · rw [List.getElem?_append_right (by omega)] at hi
      have := List.eq_of_mem_replicate (List.mem_of_getElem? hi)
      cases this
/-- a contract out of a walk from the method's entry -/
theorem Ct.of {l : Launch} {G : jG} {y : jM} {d : Nat × Nat} {mc ms : Nat} {av : List Value} {r : jS} {w : jW} {res : Option Value × jS × jW} {L : List (Option Value)} (hy : plainName y.1.cls = true) (ha : (jargs av).length ≤ y.2.2.1) (hL : jpad y.2.2.1 (jargs av) = L)
    (k : Ev l G (jrm d mc ms) y res mc ms 0 0 0 L [] r w) : Ct l G y d mc ms av r w res := by
  refine Met.ofW (cc := y.2.1) (maxL := y.2.2.1) (ret := y.2.2.2) hy rfl ?_
  intro p e s m args below meth c s₁ B hml hv
  obtain ⟨rfl, hW, hK⟩ := hv
  have hts := atoms_spec (ws := jTs y) B.pre
  rw [lg_entry_eq]
  subst hL
  exact k p e s m _ below meth c s.heap [] _ B.exec B.bytes hml B.returns B.notSynchronized (findClass_of_methodNamed B.named) hts (name_of_methodNamed B.named B.method).1 hK hW (fun q hq => by cases hq) (jL_entry G av ha)
/-- what the tables say of a method -/
def jMo (y : jM) (n : Nat) : Prop := Cond.code y.1 y.2.1 y.2.2.1 y.2.2.2 ∈ jTbl ∧ Cond.initialized y.1.cls ∈ jTbl ∧ (y.1.cls ≠ "java/lang/invoke/MethodHandle" ∧ y.1.cls ≠ "java/lang/invoke/VarHandle") ∧ (parseMethodDescriptor y.1.desc).map (fun d => d.parameters.length) = some n
theorem jgoodIn {y y2 : jM} (h : Cond.code y2.1 y2.2.1 y2.2.2.1 y2.2.2.2 ∈ jTbl) : GoodIn (jTs y) (jTs y2) := by
  intro w hw
  rcases List.mem_cons.mp hw with rfl | hw
  · exact ⟨jTs_in h, jgood h⟩
  · exact ⟨jTs_in hw, jgood hw⟩
section JC
variable {l : Launch} {G : jG} {R : Room} {y : jM} {res : Option Value × jS × jW} {mc ms c0 s0 : Nat} {pc : Nat} {L : List (Option Value)} {st st0 : List Value} {r : jS} {w : jW}
theorem jblind (hG : jX G) (av : List Value) : FrameBlind (jPc G av r w) := fun a U g mk q => ⟨q.1, q.2.1, jK.same (u := U) (U := U.calling g mk a) hG rfl q.2.2⟩
theorem jcatsum (st : List Value) : ((st.map (jcv G)).map fun v => v.category).sum = (st.map fun v => v.category).sum := by
  rw [List.map_map]
  congr 1
  apply List.map_congr_left
  intro v _
  exact jcv_cat v
theorem jcall {p : Program} {e : Env} {s : State} {m : MethodId} {args : Array Value} {below : List Frame} {meth : Method} {c : Code} {H : Heap} {locs : List Loc} {ls : Array Slot} {mc2 ms2 : Nat} {res2 : Option Value × jS × jW} {aa : Array Value}
    (hrun : va_Run p l e R s m args below meth c H locs c0 s0 mc2 ms2 (F0 m pc ls (st0.map (jcv G))) (st.map (jcv G)) (jQ G res2 aa) (fun q => (jH0 G).size ≤ q))
    (hx : p.tables.exec = Jvm.exec) (hb : c.code = y.2.1) (hn : c.maxLocals = y.2.2.1) (hr : meth.sig.returnType = y.2.2.2) (hlk : meth.locks = false) (ho : s.vm.findClass y.1.cls = some m.cls) (hts : ∀ x ∈ jTs y, x.before args s = true) (hnm : meth.name = y.1.name) (hK : jK G s) (hlo : ∀ q ∈ locs, (jH0 G).size ≤ q.base) (hL : jL G ls y.2.2.1 L)
    (k : Ev l G R y res mc ms (c0 + mc2) (s0 + ms2) (pc + 3) L (res2.1.toList ++ st) res2.2.1 res2.2.2) :
    W p l e R s m args below meth c H locs c0 s0 (MQ below (jQ G res) args s mc ms (fun q => (jH0 G).size ≤ q)) (F0 m pc ls (st0.map (jcv G))) := by
  intro T hT X
  obtain ⟨v, st₀, t, T', L2, h0, X', hL2, e1, e2, ⟨hv, hWt⟩, hst⟩ := hrun T hT X
  have hv2 : v = res2.1.map (jcv G) := by
    have := hv
    simp only [Outcome.returned.injEq] at this
    exact this
  rw [← e1] at hWt
  obtain ⟨t2, a1, b1⟩ := k p e s m args below meth c T'.heap (locs ++ L2) ls hx hb hn hr hlk ho hts hnm hK hWt (fun q hq => (List.mem_append.mp hq).elim (hlo q) (hL2 q)) hL T' rfl X'
  refine ⟨t2, hst t2 ?_, b1⟩
  have e3 : (res2.1.toList ++ st).map (jcv G) = v.toList ++ st.map (jcv G) := by
    rw [List.map_append, hv2]
    cases res2.1 <;> rfl
  rw [e3] at a1
  exact a1
theorem ev_callV {y2 : jM} {o ci idx a n mc2 ms2 : Nat} {d2 : Nat × Nat} {As : List Value} {res2 : Option Value × jS × jW} (hd : decode y.2.1 pc = .ok (.invokevirtual idx, 3)) (hoo : y.1.cls = jcn o) (hl : Cond.methodLink (jcn o) idx y2.1 ∈ jTbl) (hy2 : jMo y2 n) (hy3 : Cond.instanceMethod y2.1 ∈ jTbl ∧ Cond.selects y2.1.cls y2.1 y2.1 ∈ jTbl)
    (hR : d2.1 + 1 ≤ R.frames ∧ 8 + (y2.2.2.1 + 11) + d2.2 ≤ R.locals) (hn2 : As.length = n) (hst : st0 = As.reverse ++ .ref a :: st) (hkd : jSk r a = ci) (hci : ci < 10) (hcn : jcn ci = y2.1.cls) (h8 : (st.map fun v => v.category).sum ≤ 8) (hf : c0 + mc2 ≤ R.cells ∧ s0 + ms2 ≤ R.slots) (hG : jX G)
    (hct : Ct l G y2 d2 mc2 ms2 (.ref a :: As) r w res2) (k : Ev l G R y res mc ms (c0 + mc2) (s0 + ms2) (pc + 3) L (res2.1.toList ++ st) res2.2.1 res2.2.2) : Ev l G R y res mc ms c0 s0 pc L st0 r w := by
  intro p e s m args below meth c H locs ls hx hb hn hr hlk ho hts hnm hK hW hlo hL
  obtain ⟨g1, g2, g3, g4⟩ := hy2
  have cw : CallW R s args (jcn o) y2.1.cls idx y2.1 y2.2.1 y2.2.2.1 y2.2.2.2 (jTs y2) (jrm d2 mc2 ms2) mc2 ms2 n :=
    ⟨⟨rfl, rfl, hR.1, hR.2, pay_in hts (jgoodIn g1), List.mem_cons_self, hts _ (jTs_in g1), hts _ (jTs_in g2), g3, fun sig h => by rw [h] at g4; exact (Option.some.inj g4).symm, hts _ (jTs_in hl)⟩, hts _ (jTs_in hy3.1), hts _ (jTs_in hy3.2)⟩
  subst hkd
  obtain ⟨cell, q1, q2, q3, -⟩ := (hW.2.2.2 a (by omega)).1 hci
  have hfc := (hK.1.1 (jSk r a) _ (jcl_at hci)).2.1
  refine jcall (va_runV (b := jad G a) (As := As.map (jcv G)) (nL := y.2.2.1) (cc := y.2.1) ⟨hx, hb, hn, by rw [← hoo]; exact ho, hts⟩ hct cw ⟨jblind hG _, ⟨cell, q1, by rw [q3]; rfl, ?_⟩, fun U hU hw => ⟨rfl, by rw [hU]; exact hW, jK.warm hG hw hK⟩⟩ rfl (by rw [List.length_map]; exact hn2) hL.1 ?_ ?_ hd hf) hx hb hn hr hlk ho hts hnm hK hlo hL k
  · rw [q2, ← hcn]; exact hfc
  · show st0.map (jcv G) = _
    rw [hst, List.map_append, List.map_reverse]; rfl
  · exact lv_room (by rw [jcatsum]; exact h8)
theorem ev_callS {y2 : jM} {o idx n mc2 ms2 : Nat} {d2 : Nat × Nat} {As : List Value} {res2 : Option Value × jS × jW} (hd : decode y.2.1 pc = .ok (.invokestatic idx, 3)) (hoo : y.1.cls = jcn o) (hl : Cond.methodLink (jcn o) idx y2.1 ∈ jTbl) (hy2 : jMo y2 n) (hy3 : Cond.static y2.1 ∈ jTbl)
    (hR : d2.1 + 1 ≤ R.frames ∧ 8 + (y2.2.2.1 + 11) + d2.2 ≤ R.locals) (hn2 : As.length = n) (hst : st0 = As.reverse ++ st) (h8 : (st.map fun v => v.category).sum ≤ 8) (hf : c0 + mc2 ≤ R.cells ∧ s0 + ms2 ≤ R.slots) (hG : jX G)
    (hct : Ct l G y2 d2 mc2 ms2 As r w res2) (k : Ev l G R y res mc ms (c0 + mc2) (s0 + ms2) (pc + 3) L (res2.1.toList ++ st) res2.2.1 res2.2.2) : Ev l G R y res mc ms c0 s0 pc L st0 r w := by
  intro p e s m args below meth c H locs ls hx hb hn hr hlk ho hts hnm hK hW hlo hL
  obtain ⟨g1, g2, g3, g4⟩ := hy2
  have cw : CallB R s args (jcn o) idx y2.1 y2.2.1 y2.2.2.1 y2.2.2.2 (jTs y2) (jrm d2 mc2 ms2) mc2 ms2 n ∧ (Cond.static y2.1).before args s = true :=
    ⟨⟨rfl, rfl, hR.1, hR.2, pay_in hts (jgoodIn g1), List.mem_cons_self, hts _ (jTs_in g1), hts _ (jTs_in g2), g3, fun sig h => by rw [h] at g4; exact (Option.some.inj g4).symm, hts _ (jTs_in hl)⟩, hts _ (jTs_in hy3)⟩
  refine jcall (va_runS (As := As.map (jcv G)) (nL := y.2.2.1) (cc := y.2.1) ⟨hx, hb, hn, by rw [← hoo]; exact ho, hts⟩ hct cw ⟨jblind hG _, fun U hU hw => ⟨rfl, by rw [hU]; exact hW, jK.warm hG hw hK⟩⟩ rfl (by rw [List.length_map]; exact hn2) hL.1 ?_ ?_ hd hf) hx hb hn hr hlk ho hts hnm hK hlo hL k
  · show st0.map (jcv G) = _
    rw [hst, List.map_append, List.map_reverse]
  · exact lv_room (by rw [jcatsum]; exact h8)
theorem ev_callI {y2 : jM} {o idx a n mc2 ms2 : Nat} {d2 : Nat × Nat} {As : List Value} {res2 : Option Value × jS × jW} (hd : decode y.2.1 pc = .ok (.invokespecial idx, 3)) (hoo : y.1.cls = jcn o) (hl : Cond.methodLink (jcn o) idx y2.1 ∈ jTbl) (hy2 : jMo y2 n) (hy3 : Cond.instanceMethod y2.1 ∈ jTbl ∧ y2.1.name = "<init>" ∧ y2.2.2.2 = none)
    (hR : d2.1 + 1 ≤ R.frames ∧ 8 + (y2.2.2.1 + 11) + d2.2 ≤ R.locals) (hn2 : As.length = n) (hst : st0 = As.reverse ++ .ref a :: st) (h8 : (st.map fun v => v.category).sum ≤ 8) (hf : c0 + mc2 ≤ R.cells ∧ s0 + ms2 ≤ R.slots) (hG : jX G)
    (hct : Ct l G y2 d2 mc2 ms2 (.ref a :: As) r w res2) (k : Ev l G R y res mc ms (c0 + mc2) (s0 + ms2) (pc + 3) L (res2.1.toList ++ st) res2.2.1 res2.2.2) : Ev l G R y res mc ms c0 s0 pc L st0 r w := by
  intro p e s m args below meth c H locs ls hx hb hn hr hlk ho hts hnm hK hW hlo hL
  obtain ⟨g1, g2, g3, g4⟩ := hy2
  have cw : CallB R s args (jcn o) idx y2.1 y2.2.1 y2.2.2.1 none (jTs y2) (jrm d2 mc2 ms2) mc2 ms2 n ∧ y2.1.name = "<init>" ∧ (Cond.instanceMethod y2.1).before args s = true := by
    rw [← hy3.2.2]
    exact ⟨⟨rfl, rfl, hR.1, hR.2, pay_in hts (jgoodIn g1), List.mem_cons_self, hts _ (jTs_in g1), hts _ (jTs_in g2), g3, fun sig h => by rw [h] at g4; exact (Option.some.inj g4).symm, hts _ (jTs_in hl)⟩, hy3.2.1, hts _ (jTs_in hy3.1)⟩
  refine jcall (va_runI (b := jad G a) (As := As.map (jcv G)) (nL := y.2.2.1) (cc := y.2.1) ⟨hx, hb, hn, by rw [← hoo]; exact ho, hts⟩ hct cw ⟨jblind hG _, fun U hU hw => ⟨rfl, by rw [hU]; exact hW, jK.warm hG hw hK⟩⟩ rfl (by rw [List.length_map]; exact hn2) hL.1 ?_ ?_ hd hf) hx hb hn hr hlk ho hts hnm hK hlo hL k
  · show st0.map (jcv G) = _
    rw [hst, List.map_append, List.map_reverse]; rfl
  · exact lv_room (by rw [jcatsum]; exact h8)
/-- Object.<init> -/
theorem ev_objI {o idx a : Nat} (hd : decode y.2.1 pc = .ok (.invokespecial idx, 3)) (hoo : y.1.cls = jcn o) (hl : Cond.methodLink (jcn o) idx Lib.objectInit ∈ jTbl) (hi : Cond.instanceMethod Lib.objectInit ∈ jTbl) (hc : Cond.code Lib.objectInit ⟨#[0xb1]⟩ 1 none ∈ jTbl) (hfr : 1 ≤ R.frames) (h8 : (st.map fun v => v.category).sum + 12 ≤ R.locals)
    (k : Ev l G R y res mc ms c0 s0 (pc + 3) L st r w) : Ev l G R y res mc ms c0 s0 pc L (.ref a :: st) r w := by
  intro p e s m args below meth c H locs ls hx hb hn hr hlk ho hts hnm hK hW hlo hL
  refine W.objInit hx hb (by rw [← hoo]; exact ho) (hts _ (jTs_in hl)) (hts _ (jTs_in hi)) (hts _ (jTs_in hc)) rfl (by rw [hn]; exact hL.1) rfl hd hfr ?_ (k p e s m args below meth c H locs ls hx hb hn hr hlk ho hts hnm hK hW hlo hL)
  show 2 * 0 + ((st.map (jcv G)).map fun v => v.category).sum + 12 ≤ _
  rw [jcatsum]; omega
/-- Math.max, Math.min -/
theorem ev_max {o idx : Nat} {a b : Int32} (hd : decode y.2.1 pc = .ok (.invokestatic idx, 3)) (hoo : y.1.cls = jcn o) (hl : Cond.methodLink (jcn o) idx Lib.Math.max.name ∈ jTbl) (h1 : Cond.static Lib.Math.max.name ∈ jTbl) (h2 : Cond.initialized "java/lang/Math" ∈ jTbl) (h3 : Cond.code Lib.Math.max.name Lib.Math.max.code 2 (some .int) ∈ jTbl) (hfr : 1 ≤ R.frames) (h8 : (st.map fun v => v.category).sum + 13 ≤ R.locals) (hc : c0 ≤ R.cells) (hs : s0 ≤ R.slots)
    (k : Ev l G R y res mc ms c0 s0 (pc + 3) L (.int (if a < b then b else a) :: st) r w) : Ev l G R y res mc ms c0 s0 pc L (.int b :: .int a :: st) r w := by
  intro p e s m args below meth c H locs ls hx hb hn hr hlk ho hts hnm hK hW hlo hL
  exact va_mmax hx hb (hn.trans hL.1.symm) (by rw [← hoo]; exact ho) (hts _ (jTs_in hl)) (hts _ (jTs_in h1)) (hts _ (jTs_in h2)) (hts _ (jTs_in h3)) hfr (by rw [jcatsum]; exact h8) hc hs hd (k p e s m args below meth c H locs ls hx hb hn hr hlk ho hts hnm hK hW hlo hL)
theorem ev_min {o idx : Nat} {a b : Int32} (hd : decode y.2.1 pc = .ok (.invokestatic idx, 3)) (hoo : y.1.cls = jcn o) (hl : Cond.methodLink (jcn o) idx Lib.Math.min.name ∈ jTbl) (h1 : Cond.static Lib.Math.min.name ∈ jTbl) (h2 : Cond.initialized "java/lang/Math" ∈ jTbl) (h3 : Cond.code Lib.Math.min.name Lib.Math.min.code 2 (some .int) ∈ jTbl) (hfr : 1 ≤ R.frames) (h8 : (st.map fun v => v.category).sum + 13 ≤ R.locals) (hc : c0 ≤ R.cells) (hs : s0 ≤ R.slots)
    (k : Ev l G R y res mc ms c0 s0 (pc + 3) L (.int (if b < a then b else a) :: st) r w) : Ev l G R y res mc ms c0 s0 pc L (.int b :: .int a :: st) r w := by
  intro p e s m args below meth c H locs ls hx hb hn hr hlk ho hts hnm hK hW hlo hL
  exact va_mmin hx hb (hn.trans hL.1.symm) (by rw [← hoo]; exact ho) (hts _ (jTs_in hl)) (hts _ (jTs_in h1)) (hts _ (jTs_in h2)) (hts _ (jTs_in h3)) hfr (by rw [jcatsum]; exact h8) hc hs hd (k p e s m args below meth c H locs ls hx hb hn hr hlk ho hts hnm hK hW hlo hL)
end JC

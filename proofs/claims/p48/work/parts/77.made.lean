/-! WHAT CONSTRUCTORS DO: new cells, references put; the shape of the world as three lists -/
abbrev jT : Type := List Nat × List Nat × List (List Nat)
def jmk (T : jT) : jS := (T.1.length - 2, fun a => T.1.getD a 99, fun a => T.2.1.getD a 0, fun a k => (T.2.2.getD a []).getD k 0)
def jtn (T : jT) (kd len n : Nat) : jT := (T.1 ++ [kd], T.2.1 ++ [len], T.2.2 ++ [List.replicate n 0])
def jtr (T : jT) (a k v : Nat) : jT := (T.1, T.2.1, T.2.2.set a ((T.2.2.getD a []).set k v))
def jto (T : jT) : Bool := decide (2 ≤ T.1.length) && (T.2.1.length == T.1.length && T.2.2.length == T.1.length)
def jzr (w : jW) (a : Nat) : jW := (fun b k => if b = a then 0 else w.1 b k, fun b k => if b = a then 0 else w.2 b k)
theorem jto_e {T : jT} (h : jto T = true) : 2 ≤ T.1.length ∧ T.2.1.length = T.1.length ∧ T.2.2.length = T.1.length := by
  simpa [jto, Bool.and_eq_true] using h
theorem jgetD_app {α : Type} (l : List α) (x d : α) (a : Nat) : (l ++ [x]).getD a d = if a = l.length then x else l.getD a d := by
  rw [List.getD_eq_getElem?_getD, List.getD_eq_getElem?_getD]
  by_cases h : a = l.length
  · subst h
    simp
  · rw [if_neg h]
    by_cases hl : a < l.length
    · rw [List.getElem?_append_left hl]
    · rw [List.getElem?_eq_none (by simp; omega), List.getElem?_eq_none (by omega)]
theorem jSk_new {T : jT} {kd len n : Nat} (a : Nat) : jSk (jmk (jtn T kd len n)) a = if a = T.1.length then kd else jSk (jmk T) a := jgetD_app _ _ _ _
theorem jSl_new {T : jT} (hT : jto T = true) {kd len n : Nat} (a : Nat) : jSl (jmk (jtn T kd len n)) a = if a = T.1.length then len else jSl (jmk T) a := by
  rw [← (jto_e hT).2.1]; exact jgetD_app _ _ _ _
theorem jSr_new {T : jT} (hT : jto T = true) {kd len n : Nat} (a k : Nat) : jSr (jmk (jtn T kd len n)) a k = if a = T.1.length then 0 else jSr (jmk T) a k := by
  show ((T.2.2 ++ [List.replicate n 0]).getD a []).getD k 0 = _
  rw [jgetD_app, (jto_e hT).2.2]
  by_cases h : a = T.1.length
  · rw [if_pos h, if_pos h, List.getD_eq_getElem?_getD, List.getElem?_replicate]
    by_cases hk : k < n
    · rw [if_pos hk]; rfl
    · rw [if_neg hk]; rfl
  · rw [if_neg h, if_neg h]; rfl
theorem jcell_ext {G : jG} {r r' : jS} {w w' : jW} {a : Nat} {H H' : Heap} (h : jcell G r w a H) (hk : jSk r' a = jSk r a) (hl : jSl r' a = jSl r a) (hr : ∀ k, jSr r' a k = jSr r a k) (hq : H'[jad G a]? = H[jad G a]?) (h1 : ∀ k, w'.1 a k = w.1 a k) (h2 : ∀ k, w'.2 a k = w.2 a k) : jcell G r' w' a H' := by
  refine ⟨fun k => ?_, fun k => ?_, fun k => ?_⟩
  · rw [hk] at k
    have := h.1 k
    unfold jobj at this ⊢
    simp only [h1, h2, hr]
    rw [hk]
    exact this.kept hq
  · rw [hk] at k
    have := h.2.1 k
    unfold jari at this ⊢
    simp only [h1]
    rw [hk, hl, hq]; exact this
  · rw [hk] at k
    have := h.2.2 k
    unfold jarl at this ⊢
    simp only [h2]
    rw [hk, hl, hq]; exact this
theorem jad_new {G : jG} {T : jT} (hT : jto T = true) {w : jW} {H : Heap} (hW : jWd G (jmk T) w H) : jad G T.1.length = H.size := by
  have h1 := hW.1
  have h2 := (jto_e hT).1
  obtain ⟨k, hk⟩ : ∃ k, T.1.length = k + 2 := ⟨T.1.length - 2, by omega⟩
  have h3 : jSn (jmk T) = T.1.length - 2 := rfl
  rw [h1, h3, hk]; rfl
theorem jWd_new {G : jG} {T : jT} (hT : jto T = true) {kd len n : Nat} {w : jW} {H H' : Heap} (hW : jWd G (jmk T) w H) (hz : H'.size = H.size + 1) (hq : ∀ q, q < H.size → H'[q]? = H[q]?) (hc : jcell G (jmk (jtn T kd len n)) (jzr w T.1.length) T.1.length H') : jWd G (jmk (jtn T kd len n)) (jzr w T.1.length) H' := by
  have h2 := (jto_e hT).1
  have hs : jSn (jmk (jtn T kd len n)) = jSn (jmk T) + 1 := by
    show (T.1 ++ [kd]).length - 2 = T.1.length - 2 + 1
    simp; omega
  have hn : jSn (jmk T) = T.1.length - 2 := rfl
  refine ⟨by rw [hz, hW.1, hs]; omega, fun q h => ?_, fun a ha => ?_, fun a ha => ?_⟩
  · rw [hq q (by rw [hW.1]; omega)]
    exact hW.2.1 q h
  · rw [jSk_new] at ha
    by_cases e : a = T.1.length
    · omega
    · rw [if_neg e] at ha
      have := hW.2.2.1 a ha
      omega
  · by_cases e : a = T.1.length
    · subst e; exact hc
    · have ha' := ha
      rw [jSk_new, if_neg e] at ha'
      have hb := hW.2.2.1 a ha'
      refine jcell_ext (hW.2.2.2 a ha') (by rw [jSk_new, if_neg e]) (by rw [jSl_new hT, if_neg e]) (fun k => by rw [jSr_new hT, if_neg e]) (hq _ ?_) (fun k => if_neg e) (fun k => if_neg e)
      obtain ⟨j, hj⟩ : ∃ j, a = j + 2 := ⟨a - 2, by omega⟩
      subst hj
      show (jH0 G).size + j < H.size
      rw [hW.1]; omega
def jfok : FieldType → Bool
  | .float => false
  | .double => false
  | _ => true
theorem jfok_all : ∀ ci, ci < 10 → ∀ k, k < jNf ci → jfok (jtyf ci k) = true := by decide +kernel
theorem jdef {G : jG} {t : FieldType} (h : jfok t = true) : defaultValue t = jfv G t 0 0 0 := by
  cases t <;> first | rfl | cases h
section JM
variable {l : Launch} {G : jG} {R : Room} {y : jM} {res : Option Value × jS × jW} {mc ms c0 s0 : Nat} {pc : Nat} {L : List (Option Value)} {st : List Value} {r : jS} {w : jW}
theorem ev_new {T : jT} {o idx ci a : Nat} (ha : T.1.length = a) (hd : decode y.2.1 pc = .ok (.new idx, 3)) (hoo : y.1.cls = jcn o) (hT : jto T = true) (hci : ci < 10) (hcl : Cond.classLink (jcn o) idx (jcn ci) ∈ jTbl) (hin : Cond.instantiable (jcn ci) (jNf ci) ∈ jTbl) (hini : Cond.initialized (jcn ci) ∈ jTbl) (hc : c0 + 1 ≤ R.cells) (hs : s0 + jNf ci ≤ R.slots)
    (k : Ev l G R y res mc ms (c0 + 1) (s0 + jNf ci) (pc + 3) L (.ref a :: st) (jmk (jtn T ci 0 (jNf ci))) (jzr w a)) : Ev l G R y res mc ms c0 s0 pc L st (jmk T) w := by
  subst ha
  intro p e s m args below meth c H locs ls hx hb hn hr hlk ho hts hnm hK hW hlo hL
  have hKn := hK.1.1 ci _ (jcl_at hci)
  have hsub : ∀ w ∈ u_ws (jcn ci) (jTf ci) (jNf ci), w ∈ jTs y := fun w hw => jTs_in (jws_ok hci w hw)
  refine W.newcK hx hb (by rw [← hoo]; exact ho) (hts _ (jTs_in hcl)) (hts _ (jTs_in hin)) (hts _ (jTs_in hini)) rfl hd hc hs hKn.2.1 rfl fun H1 kC hkC e1 z1 o1 => ?_
  have had := jad_new hT hW
  have hob : jobj G (jmk (jtn T ci 0 (jNf ci))) (jzr w T.1.length) T.1.length H1 := by
    unfold jobj
    rw [jSk_new, if_pos rfl, had]
    refine (u_born (jtyf ci) hts hsub hKn hkC e1 (jty_ok ci hci)).to (fun j hj => ?_)
    rw [jSr_new hT, if_pos rfl]
    show defaultValue (jtyf ci j) = jfv G (jtyf ci j) 0 (if T.1.length = T.1.length then 0 else _) (if T.1.length = T.1.length then 0 else _)
    rw [if_pos rfl, if_pos rfl]
    exact jdef (jfok_all ci hci j hj)
  have hkd : jSk (jmk (jtn T ci 0 (jNf ci))) T.1.length = ci := by rw [jSk_new, if_pos rfl]
  have hW' := jWd_new hT hW z1 o1 (kd := ci) (len := 0) (n := jNf ci) ⟨fun _ => hob, fun h => by omega, fun h => by omega⟩
  have := k p e s m args below meth c H1 locs ls hx hb hn hr hlk ho hts hnm hK hW' hlo hL
  rw [List.map_cons, show jcv G (.ref T.1.length) = .ref H.size from congrArg Value.ref had] at this
  exact this
theorem jnewa {T : jT} {kd a : Nat} {ty : FieldType} {atype : ArrayType} {n : Int32} {N : Nat} (ha : T.1.length = a) (hd : decode y.2.1 pc = .ok (.newarray atype, 2)) (hty : newarray.typeOf atype = ty) (hT : jto T = true) (hk : kd = 20 ∧ ty = .int ∨ kd = 21 ∧ ty = .boolean ∨ kd = 22 ∧ ty = .long) (harr : Cond.arrayClass ty ∈ jTbl) (hn0 : ¬ n < 0) (hN : n.toNatClampNeg = N) (hby : N * componentBytes ty ≤ 536870912) (hc : c0 + 1 ≤ R.cells) (hs : s0 + N ≤ R.slots)
    (k : Ev l G R y res mc ms (c0 + 1) (s0 + N) (pc + 2) L (.ref a :: st) (jmk (jtn T kd N 0)) (jzr w a)) : Ev l G R y res mc ms c0 s0 pc L (.int n :: st) (jmk T) w := by
  subst ha
  intro p e s m args below meth c H locs ls hx hb hn hr hlk ho hts hnm hK hW hlo hL
  subst hty
  refine va_newaK hx hb (hts _ (jTs_in harr)) rfl hd rfl hn0 hN hby hc hs rfl fun H1 cA e1 z1 o1 hA hnm2 => ?_
  have had := jad_new hT hW
  have hkd : jSk (jmk (jtn T kd N 0)) T.1.length = kd := by rw [jSk_new, if_pos rfl]
  have hln : jSl (jmk (jtn T kd N 0)) T.1.length = N := by rw [jSl_new hT, if_pos rfl]
  have hcA : cA = G.2.1 kd := by
    rcases hk with ⟨rfl, h⟩ | ⟨rfl, h⟩ | ⟨rfl, h⟩
    · have h2 : s.vm.findClass ("[" ++ FieldType.int.toString) = some (G.2.1 20) := (hK.1.2 0 _ rfl).2
      rw [h] at hnm2; exact Option.some.inj (hnm2.symm.trans h2)
    · have h2 : s.vm.findClass ("[" ++ FieldType.boolean.toString) = some (G.2.1 21) := (hK.1.2 1 _ rfl).2
      rw [h] at hnm2; exact Option.some.inj (hnm2.symm.trans h2)
    · have h2 : s.vm.findClass ("[" ++ FieldType.long.toString) = some (G.2.1 22) := (hK.1.2 2 _ rfl).2
      rw [h] at hnm2; exact Option.some.inj (hnm2.symm.trans h2)
  have hcell : jcell G (jmk (jtn T kd N 0)) (jzr w T.1.length) T.1.length H1 := by
    refine ⟨fun h => by rw [hkd] at h; omega, fun h => ?_, fun h => ?_⟩
    · unfold jari
      rw [hkd, hln, had, e1, hcA]
      rw [hkd] at h
      have hz : ∀ j, (jzr w T.1.length).1 T.1.length j = 0 := fun j => if_pos rfl
      rcases hk with ⟨_, h2⟩ | ⟨_, h2⟩ | ⟨rfl, _⟩
      · rw [h2]; simp only [hz]; rfl
      · rw [h2]; simp only [hz]; rfl
      · omega
    · unfold jarl
      rw [hkd, hln, had, e1, hcA]
      rw [hkd] at h
      have hz : ∀ j, (jzr w T.1.length).2 T.1.length j = 0 := fun j => if_pos rfl
      rcases hk with ⟨rfl, _⟩ | ⟨rfl, _⟩ | ⟨_, h2⟩
      · omega
      · omega
      · rw [h2]; simp only [hz]; rfl
  have hW' := jWd_new hT hW z1 o1 (kd := kd) (len := N) (n := 0) hcell
  have := k p e s m args below meth c H1 locs ls hx hb hn hr hlk ho hts hnm hK hW' hlo hL
  rw [List.map_cons, show jcv G (.ref T.1.length) = .ref H.size from congrArg Value.ref had] at this
  exact this
/-- a final field is put in its class's constructor -/
theorem ev_putF {o idx ci k a : Nat} {v : Value} {r' : jS} {w' : jW} (hd : decode y.2.1 pc = .ok (.putfield idx, 3)) (hoo : y.1.cls = jcn o) (hoc : o = ci) (hci : ci < 10) (hk : k < jNf ci) (hlink : Cond.fieldLink (jcn o) idx (jcn ci) (jTf ci k).2.1 (jTf ci k).2.2.1 ∈ jTbl) (hfin : (jTf ci k).2.2.2 = true) (hini : y.1.name = "<init>") (hkd : jSk r a = ci)
    (hnv : narrow (jtyf ci k) (jcv G v) = jcv G v) (hfv : fits (jtyf ci k) (jcv G v) = true) (h0 : jSn r' = jSn r ∧ jSk r' = jSk r ∧ jSl r' = jSl r) (h4 : ∀ b, b ≠ a → ∀ j, jSr r' b j = jSr r b j) (h1 : ∀ b, b ≠ a → ∀ j, w'.1 b j = w.1 b j) (h2 : ∀ b, b ≠ a → ∀ j, w'.2 b j = w.2 b j)
    (h3 : ∀ j, jfv G (jtyf ci j) (jSr r' a j) (w'.1 a j) (w'.2 a j) = if j = k then jcv G v else jfv G (jtyf ci j) (jSr r a j) (w.1 a j) (w.2 a j))
    (kk : Ev l G R y res mc ms c0 s0 (pc + 3) L st r' w') : Ev l G R y res mc ms c0 s0 pc L (v :: .ref a :: st) r w := by
  intro p e s m args below meth c H locs ls hx hb hn hr hlk ho hts hnm hK hW hlo hL
  subst hkd
  obtain ⟨cell, q1, q2, q3, q4⟩ := (hW.2.2.2 a (by omega)).1 hci
  have hKa : va_K G.1 jcl [(G.2.1 20, .int), (G.2.1 21, .boolean), (G.2.1 22, .long)] s := hK.1
  obtain ⟨hS, hfc, kC, hkC, hkind⟩ := hKa.1 (jSk r a) _ (jcl_at hci)
  have hin : ∀ w ∈ u_ws (jcn (jSk r a)) (jTf (jSk r a)) (jNf (jSk r a)), w ∈ jTs y := fun w hw => jTs_in (jws_ok hci w hw)
  have hap := va_apart (own := jcn o) hts hin (jtyf (jSk r a)) (jty_ok _ hci) (jnm_ok _ hci) hKa (jcl_at hci)
  obtain ⟨cf, kf, fi, f, hi, hsl⟩ := hS k hk
  have hown2 : s.vm.findClass (jcn o) = some m.cls := by rw [← hoo]; exact ho
  have hdecl : (jTf (jSk r a) k).1 = jcn (jSk r a) := jown_ok _ hci k hk
  have hi' := hi
  rw [show ((jcn (jSk r a), jTf (jSk r a), jNf (jSk r a)).2.1 k).1 = jcn (jSk r a) from hdecl] at hi'
  have hlay := hts _ (hin _ (u_in_lay hk))
  unfold u_lay at hlay
  rw [if_pos hfin] at hlay
  have hst := (u_facts hfc hkC (u_lays hts hin hk) hi).1
  have hcf : m.cls = cf := by
    obtain ⟨_, _, c', _, _, _, -, -, hf', -, -, -, hown3, -⟩ := Cond.laysFinal_spec hlay
    have e1 : c' = cf := by have := hi.symm.trans hf'; simp at this; exact this.1.symm
    rw [hdecl, ← hoc] at hown3
    rw [← e1]; exact Option.some.inj (hown2.symm.trans hown3)
  have h6 := u_fits hfc hkC hkind (Or.inr hlay) hi (jty_ok _ hci k hk) hnv hfv
  refine W.putFinK hx hb hown2 (hts _ (jTs_in hlink)) hi' hst hcf (hnm.trans hini) (by rw [q2]; exact h6) q1 q3 (by rw [hsl]; exact k2_hasslot (q4 k hk)) rfl rfl hd fun H' e1 e2 e3 => ?_
  rw [hsl] at e1
  have ha2 := (hW.2.2.1 a (by omega)).1
  have hob : jobj G r' w' a H' := by
    unfold jobj
    rw [h0.2.1]
    refine t_OB.to (V := updV (fun j => jfv G (jtyf (jSk r a) j) (jSr r a j) (w.1 a j) (w.2 a j)) k (jcv G v)) ⟨_, e1, q2, q3, t_set q4 hap hk (jcv G v)⟩ (fun j _ => ?_)
    rw [h3 j]; rfl
  have hW' : jWd G r' w' H' := by
    refine ⟨by rw [e2, hW.1, h0.1], fun q hl => ?_, fun b hb2 => ?_, fun b hb2 => ?_⟩
    · rw [e3 q (fun z => Nat.lt_irrefl _ (Nat.lt_of_lt_of_le hl (by rw [z]; exact jad_ge ha2)))]
      exact hW.2.1 q hl
    · rw [h0.2.1] at hb2
      rw [h0.1]; exact hW.2.2.1 b hb2
    · rw [h0.2.1] at hb2
      by_cases z : b = a
      · subst z
        exact ⟨fun _ => hob, fun h => by rw [h0.2.1] at h; omega, fun h => by rw [h0.2.1] at h; omega⟩
      · exact jcell_ext (hW.2.2.2 b hb2) (by rw [h0.2.1]) (by rw [h0.2.2]) (h4 b z) (e3 _ (fun q => z (jad_inj (hW.2.2.1 b hb2).1 ha2 q))) (h1 b z) (h2 b z)
  exact kk p e s m args below meth c H' _ ls hx hb hn hr hlk ho hts hnm hK hW' (jlo_app hlo (jad_ge ha2)) hL
theorem jSr_ref {T : jT} {a k v : Nat} (ha : a < T.2.2.length) (hk : k < (T.2.2.getD a []).length) (b j : Nat) : jSr (jmk (jtr T a k v)) b j = if b = a ∧ j = k then v else jSr (jmk T) b j := by
  show ((T.2.2.set a ((T.2.2.getD a []).set k v)).getD b []).getD j 0 = _
  by_cases hb : b = a
  · subst hb
    rw [List.getD_eq_getElem?_getD (l := T.2.2.set _ _), List.getElem?_set_self ha]
    show (((T.2.2.getD b []).set k v)).getD j 0 = _
    by_cases hj : j = k
    · subst hj
      rw [if_pos ⟨rfl, rfl⟩, List.getD_eq_getElem?_getD, List.getElem?_set_self hk]; rfl
    · rw [if_neg (fun q => hj q.2), List.getD_eq_getElem?_getD, List.getElem?_set_ne (Ne.symm hj)]
      show _ = ((T.2.2.getD b []).getD j 0)
      rw [List.getD_eq_getElem?_getD (l := T.2.2.getD b [])]
  · rw [if_neg (fun q => hb q.1)]
    show _ = (T.2.2.getD b []).getD j 0
    congr 1
    rw [List.getD_eq_getElem?_getD, List.getElem?_set_ne (Ne.symm hb)]
    exact (List.getD_eq_getElem?_getD ..).symm
theorem jrf_narrow {t : FieldType} (h : jrf t = true) (x : Nat) : narrow t (.ref x) = .ref x := by
  cases t <;> first | rfl | cases h
theorem jrf_fits {t : FieldType} (h : jrf t = true) (x : Nat) : fits t (.ref x) = true := by
  cases t <;> first | rfl | cases h
/-- a reference is put (final, in its class's constructor) -/
theorem ev_putr {T : jT} {o idx ci k a b : Nat} (hd : decode y.2.1 pc = .ok (.putfield idx, 3)) (hoo : y.1.cls = jcn o) (hm : (o, idx, ci, k) ∈ jfl) (hoc : o = ci) (hfin : (jTf ci k).2.2.2 = true) (hty : jrf (jtyf ci k) = true) (hini : y.1.name = "<init>") (hkd : jSk (jmk T) a = ci) (ha : a < T.2.2.length) (hk2 : k < (T.2.2.getD a []).length) (hb0 : b ≠ 0)
    (kk : Ev l G R y res mc ms c0 s0 (pc + 3) L st (jmk (jtr T a k b)) w) : Ev l G R y res mc ms c0 s0 pc L (.ref b :: .ref a :: st) (jmk T) w := by
  obtain ⟨h1, h2, h3⟩ := jfl_ok hm
  refine ev_putF (v := .ref b) (r' := jmk (jtr T a k b)) (w' := w) hd hoo hoc h2 h3 h1 hfin hini hkd (jrf_narrow hty _) (jrf_fits hty _) ⟨rfl, rfl, rfl⟩ (fun c hc j => by rw [jSr_ref ha hk2, if_neg (fun q => hc q.1)]) (fun _ _ _ => rfl) (fun _ _ _ => rfl) (fun j => ?_) kk
  rw [jSr_ref ha hk2]
  by_cases hj : j = k
  · subst hj
    rw [if_pos ⟨rfl, rfl⟩, if_pos rfl]
    exact jfv_ref hty hb0
  · rw [if_neg (fun q => hj q.2), if_neg hj]
/-- a final int is put -/
theorem ev_putiF {o idx ci k a : Nat} {x : Int32} (hd : decode y.2.1 pc = .ok (.putfield idx, 3)) (hoo : y.1.cls = jcn o) (hm : (o, idx, ci, k) ∈ jfl) (hoc : o = ci) (hfin : (jTf ci k).2.2.2 = true) (hty : jtyf ci k = .int) (hini : y.1.name = "<init>") (hkd : jSk r a = ci)
    (kk : Ev l G R y res mc ms c0 s0 (pc + 3) L st r (jup w.1 a k x, w.2)) : Ev l G R y res mc ms c0 s0 pc L (.int x :: .ref a :: st) r w := by
  obtain ⟨h1, h2, h3⟩ := jfl_ok hm
  refine ev_putF (v := .int x) (r' := r) (w' := (jup w.1 a k x, w.2)) hd hoo hoc h2 h3 h1 hfin hini hkd (by rw [hty]; rfl) (by rw [hty]; rfl) ⟨rfl, rfl, rfl⟩ (fun _ _ _ => rfl) (fun b h j => jup_ne h j) (fun _ _ _ => rfl) (fun j => ?_) kk
  show jfv G _ _ (jup w.1 a k x a j) _ = _
  rw [jup_at]
  by_cases h : j = k
  · subst h
    rw [if_pos rfl, if_pos rfl, hty]; rfl
  · rw [if_neg h, if_neg h]
end JM

/-! shapes: the lists up to a place, and the world with so many cells -/
def jtk (kk : Nat) : jT := (jk0l.take kk, jl0l.take kk, jr0l.take kk)
theorem jWd_sh {G : jG} {r r' : jS} {w : jW} {H : Heap} (hn : jSn r' = jSn r) (hk : ∀ a, jSk r' a = jSk r a) (hl : ∀ a, jSk r a < 90 → jSl r' a = jSl r a) (hr : ∀ a, jSk r a < 90 → ∀ k, jSr r' a k = jSr r a k) (h : jWd G r w H) : jWd G r' w H := by
  obtain ⟨g1, g2, g3, g4⟩ := h
  refine ⟨g1.trans (by rw [hn]), g2, fun a ha => ?_, fun a ha => ?_⟩
  · rw [hk] at ha
    rw [hn]
    exact g3 a ha
  · rw [hk] at ha
    exact jcell_ext (g4 a ha) (hk a) (hl a ha) (hr a ha) rfl (fun _ => rfl) (fun _ => rfl)
theorem jgetD_take {α : Type} (l : List α) (n a : Nat) (d : α) : (l.take n).getD a d = if a < n then l.getD a d else d := by
  rw [List.getD_eq_getElem?_getD, List.getD_eq_getElem?_getD, List.getElem?_take]
  by_cases h : a < n
  · rw [if_pos h, if_pos h]
  · rw [if_neg h, if_neg h]; rfl
theorem jsh_n {kk : Nat} (h : kk ≤ jk0l.length) : jSn (jmk (jtk kk)) = jSn (jRx kk) := by
  show (jk0l.take kk).length - 2 = kk - 2
  rw [List.length_take, Nat.min_eq_left h]
theorem jsh_k (kk a : Nat) : jSk (jmk (jtk kk)) a = jSk (jRx kk) a := jgetD_take _ _ _ _
theorem jsh_lt {kk a : Nat} (h : jSk (jRx kk) a < 90) : a < kk := by
  by_cases q : a < kk
  · exact q
  · have h2 : (if a < kk then jk0l.getD a 99 else 99) < 90 := h
    rw [if_neg q] at h2
    omega
theorem jsh_l {kk a : Nat} (h : a < kk) : jSl (jmk (jtk kk)) a = jSl (jRx kk) a := (jgetD_take _ _ _ _).trans (if_pos h)
theorem jsh_r {kk a : Nat} (h : a < kk) (k : Nat) : jSr (jmk (jtk kk)) a k = jSr (jRx kk) a k := by
  show ((jr0l.take kk).getD a []).getD k 0 = (jr0l.getD a []).getD k 0
  rw [jgetD_take, if_pos h]
theorem jsh_from {G : jG} {kk : Nat} (h : kk ≤ jk0l.length) (w : jW) (H : Heap) (q : jWd G (jRx kk) w H) : jWd G (jmk (jtk kk)) w H :=
  jWd_sh (jsh_n h) (jsh_k kk) (fun a ha => jsh_l (jsh_lt ha)) (fun a ha k => jsh_r (jsh_lt ha) k) q
theorem jsh_to {G : jG} {kk : Nat} (h : kk ≤ jk0l.length) (w : jW) (H : Heap) (q : jWd G (jmk (jtk kk)) w H) : jWd G (jRx kk) w H :=
  jWd_sh (jsh_n h).symm (fun a => (jsh_k kk a).symm) (fun a ha => (jsh_l (jsh_lt (by rw [← jsh_k]; exact ha))).symm) (fun a ha k => (jsh_r (jsh_lt (by rw [← jsh_k]; exact ha)) k).symm) q
section JSH
variable {l : Launch} {G : jG} {R : Room} {y : jM} {res : Option Value × jS × jW} {mc ms c0 s0 : Nat} {pc : Nat} {L : List (Option Value)} {st : List Value} {r r' : jS} {w : jW}
theorem ev_shape (hs : ∀ w H, jWd G r w H → jWd G r' w H) (k : Ev l G R y res mc ms c0 s0 pc L st r' w) : Ev l G R y res mc ms c0 s0 pc L st r w := by
  intro p e s m args below meth c H locs ls hx hb hn hr hlk ho hts hnm hK hW hlo hL
  exact k p e s m args below meth c H locs ls hx hb hn hr hlk ho hts hnm hK (hs w H hW) hlo hL
/-- a new row of the law's own -/
theorem ev_newx {kk kd : Nat} {ty : FieldType} {atype : ArrayType} {n : Int32} {N : Nat} (hd : decode y.2.1 pc = .ok (.newarray atype, 2)) (hty : newarray.typeOf atype = ty) (hT : ((kk + 1 ≤ jk0l.length ∧ jto (jtk kk) = true) ∧ (jtk kk).1.length = kk) ∧ jtn (jtk kk) kd N 0 = jtk (kk + 1)) (hk : kd = 20 ∧ ty = .int ∨ kd = 21 ∧ ty = .boolean ∨ kd = 22 ∧ ty = .long) (harr : Cond.arrayClass ty ∈ jTbl) (hn0 : ¬ n < 0) (hN : n.toNatClampNeg = N) (hby : N * componentBytes ty ≤ 536870912) (hc : c0 + 1 ≤ R.cells) (hs : s0 + N ≤ R.slots)
    (k : Ev l G R y res mc ms (c0 + 1) (s0 + N) (pc + 2) L (.ref kk :: st) (jRx (kk + 1)) (jzr w kk)) : Ev l G R y res mc ms c0 s0 pc L (.int n :: st) (jRx kk) w := by
  obtain ⟨⟨⟨h1, h2⟩, h3⟩, h4⟩ := hT
  refine ev_shape (jsh_from (by omega)) (jnewa (T := jtk kk) (a := kk) h3 hd hty h2 hk harr hn0 hN hby hc hs ?_)
  rw [h4]
  exact ev_shape (jsh_to h1) k
end JSH

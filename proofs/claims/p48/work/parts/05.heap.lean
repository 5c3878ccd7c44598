section JH
variable {l : Launch} {G : jG} {R : Room} {y : jM} {res : Option Value × jS × jW} {mc ms c0 s0 : Nat} {pc : Nat} {L : List (Option Value)} {st : List Value} {r : jS} {w : jW}
def jin (i : Int32) (n : Nat) : Bool := !(decide (i < 0) || decide (n ≤ i.toNatClampNeg))
theorem jin_not {i : Int32} {n : Nat} (h : jin i n = true) : ¬ (i < 0 ∨ n ≤ i.toNatClampNeg) := by
  simpa [jin, not_or] using h
def jbo (v : Int32) : Bool := v == 0 || v == 1
theorem jbo_or {v : Int32} (h : jbo v = true) : v = 0 ∨ v = 1 := by
  simpa [jbo] using h
theorem jbo_fits {v : Int32} (h : jbo v = true) : fits .boolean (.int v) = true := h
theorem jbo_narrow {v : Int32} (h : jbo v = true) : narrow .boolean (.int v) = .int v := by
  rcases jbo_or h with rfl | rfl <;> rfl
/-- a field is read -/
theorem ev_getv {o idx ci k a : Nat} {v : Value} (hd : decode y.2.1 pc = .ok (.getfield idx, 3)) (hoo : y.1.cls = jcn o) (hci : ci < 10) (hk : k < jNf ci) (hlink : Cond.fieldLink (jcn o) idx (jcn ci) (jTf ci k).2.1 (jTf ci k).2.2.1 ∈ jTbl) (hkd : jSk r a = ci)
    (hv : jfv G (jtyf ci k) (jSr r a k) (w.1 a k) (w.2 a k) = jcv G v) (kk : Ev l G R y res mc ms c0 s0 (pc + 3) L (v :: st) r w) : Ev l G R y res mc ms c0 s0 pc L (.ref a :: st) r w := by
  intro p e s m args below meth c H locs ls hx hb hn hr hlk ho hts hnm hK hW hlo hL
  subst hkd
  obtain ⟨cell, q1, q2, q3, q4⟩ := (hW.2.2.2 a (by omega)).1 hci
  obtain ⟨hS, hfc, kC, hkC, hkind⟩ := hK.1.1 (jSk r a) _ (jcl_at hci)
  obtain ⟨cf, kf, fi, f, hi, hsl⟩ := hS k hk
  have hi' := hi
  rw [show (jTf (jSk r a) k).1 = jcn (jSk r a) from jown_ok _ hci k hk] at hi'
  refine W.getf hx hb (by rw [← hoo]; exact ho) (hts _ (jTs_in hlink)) hi' (u_facts hfc hkC (u_lays hts (fun w hw => jTs_in (jws_ok hci w hw)) hk) hi).1 q1 (by rw [q3]; exact fun h => by cases h) (v := jcv G v) ?_ rfl rfl hd (kk p e s m args below meth c H locs ls hx hb hn hr hlk ho hts hnm hK hW hlo hL)
  rw [hsl, q4 k hk]
  exact congrArg some hv
theorem ev_geti {o idx ci k a : Nat} (hd : decode y.2.1 pc = .ok (.getfield idx, 3)) (hoo : y.1.cls = jcn o) (hci : ci < 10) (hk : k < jNf ci) (hlink : Cond.fieldLink (jcn o) idx (jcn ci) (jTf ci k).2.1 (jTf ci k).2.2.1 ∈ jTbl) (hty : jtyf ci k = .int ∨ jtyf ci k = .boolean) (hkd : jSk r a = ci)
    (kk : Ev l G R y res mc ms c0 s0 (pc + 3) L (.int (w.1 a k) :: st) r w) : Ev l G R y res mc ms c0 s0 pc L (.ref a :: st) r w :=
  ev_getv hd hoo hci hk hlink hkd (by rcases hty with h | h <;> rw [h] <;> rfl) kk
theorem ev_getl {o idx ci k a : Nat} (hd : decode y.2.1 pc = .ok (.getfield idx, 3)) (hoo : y.1.cls = jcn o) (hci : ci < 10) (hk : k < jNf ci) (hlink : Cond.fieldLink (jcn o) idx (jcn ci) (jTf ci k).2.1 (jTf ci k).2.2.1 ∈ jTbl) (hty : jtyf ci k = .long) (hkd : jSk r a = ci)
    (kk : Ev l G R y res mc ms c0 s0 (pc + 3) L (.long (w.2 a k) :: st) r w) : Ev l G R y res mc ms c0 s0 pc L (.ref a :: st) r w :=
  ev_getv hd hoo hci hk hlink hkd (by rw [hty]; rfl) kk
def jrf (t : FieldType) : Bool := match t with
  | .object _ => true
  | .array _ => true
  | _ => false
theorem jfv_ref {t : FieldType} (h : jrf t = true) {x : Nat} {i : Int32} {j : Int64} (hx : x ≠ 0) : jfv G t x i j = .ref (jad G x) := by
  cases t <;> first | (cases h; done) | (unfold jfv; simp only [if_neg hx])
/-- a reference is read: what it names is of a kind -/
theorem ev_getr {o idx ci k a : Nat} (hd : decode y.2.1 pc = .ok (.getfield idx, 3)) (hoo : y.1.cls = jcn o) (hci : ci < 10) (hk : k < jNf ci) (hlink : Cond.fieldLink (jcn o) idx (jcn ci) (jTf ci k).2.1 (jTf ci k).2.2.1 ∈ jTbl) (hty : jrf (jtyf ci k) = true) (hkd : jSk r a = ci) (hkx : jSk r (jSr r a k) < 90)
    (kk : Ev l G R y res mc ms c0 s0 (pc + 3) L (.ref (jSr r a k) :: st) r w) : Ev l G R y res mc ms c0 s0 pc L (.ref a :: st) r w := by
  intro p e s m args below meth c H locs ls hx hb hn hr hlk ho hts hnm hK hW hlo hL
  have h2 := (hW.2.2.1 _ hkx).1
  exact ev_getv (v := .ref (jSr r a k)) hd hoo hci hk hlink hkd (jfv_ref hty (by omega)) kk p e s m args below meth c H locs ls hx hb hn hr hlk ho hts hnm hK hW hlo hL
/-- a field is written -/
theorem ev_putv {o idx ci k a : Nat} {v : Value} {w' : jW} (hd : decode y.2.1 pc = .ok (.putfield idx, 3)) (hoo : y.1.cls = jcn o) (hci : ci < 10) (hk : k < jNf ci) (hlink : Cond.fieldLink (jcn o) idx (jcn ci) (jTf ci k).2.1 (jTf ci k).2.2.1 ∈ jTbl) (hfin : (jTf ci k).2.2.2 = false) (hkd : jSk r a = ci)
    (hnv : narrow (jtyf ci k) (jcv G v) = jcv G v) (hfv : fits (jtyf ci k) (jcv G v) = true) (h1 : ∀ b, b ≠ a → ∀ j, w'.1 b j = w.1 b j) (h2 : ∀ b, b ≠ a → ∀ j, w'.2 b j = w.2 b j)
    (h3 : ∀ j, jfv G (jtyf ci j) (jSr r a j) (w'.1 a j) (w'.2 a j) = if j = k then jcv G v else jfv G (jtyf ci j) (jSr r a j) (w.1 a j) (w.2 a j))
    (kk : Ev l G R y res mc ms c0 s0 (pc + 3) L st r w') : Ev l G R y res mc ms c0 s0 pc L (v :: .ref a :: st) r w := by
  intro p e s m args below meth c H locs ls hx hb hn hr hlk ho hts hnm hK hW hlo hL
  subst hkd
  obtain ⟨cell, q1, q2, q3, q4⟩ := (hW.2.2.2 a (by omega)).1 hci
  have hKa : va_K G.1 jcl [(G.2.1 20, .int), (G.2.1 21, .boolean), (G.2.1 22, .long)] s := hK.1
  obtain ⟨hS, hfc, kC, hkC, hkind⟩ := hKa.1 (jSk r a) _ (jcl_at hci)
  have hin : ∀ w ∈ u_ws (jcn (jSk r a)) (jTf (jSk r a)) (jNf (jSk r a)), w ∈ jTs y := fun w hw => jTs_in (jws_ok hci w hw)
  have hap := va_apart (own := jcn o) hts hin (jtyf (jSk r a)) (jty_ok _ hci) (jnm_ok _ hci) hKa (jcl_at hci)
  obtain ⟨cf, kf, fi, f, hi, hsl⟩ := hS k hk
  have hi' := hi
  rw [show (jTf (jSk r a) k).1 = jcn (jSk r a) from jown_ok _ hci k hk] at hi'
  have hlay := hts _ (hin _ (u_in_lay hk))
  unfold u_lay at hlay
  rw [if_neg (by rw [hfin]; decide)] at hlay
  have hst := (u_facts hfc hkC (u_lays hts hin hk) hi).1
  have h6 := u_store hfc hkC hkind hlay hi (jty_ok _ hci k hk) hnv hfv
  refine W.putK hx hb (f := f) ⟨by rw [← hoo]; exact ho, hts _ (jTs_in hlink), ⟨_, _, _, hi'⟩, hst⟩ (by rw [q2]; exact h6) q1 q3 (by rw [hsl]; exact k2_hasslot (q4 k hk)) rfl rfl hd fun H' e1 e2 e3 => ?_
  rw [hsl] at e1
  have hob : jobj G r w' a H' := by
    refine t_OB.to (V := updV (fun j => jfv G (jtyf (jSk r a) j) (jSr r a j) (w.1 a j) (w.2 a j)) k (jcv G v)) ⟨_, e1, q2, q3, t_set q4 hap hk (jcv G v)⟩ (fun j _ => ?_)
    rw [h3 j]
    rfl
  have hW' : jWd G r w' H' := hW.put (by omega) e2 e3 h1 h2 ⟨fun _ => hob, fun h => by omega, fun h => by omega⟩
  have ha2 := (hW.2.2.1 a (by omega)).1
  refine kk p e s m args below meth c H' _ ls hx hb hn hr hlk ho hts hnm hK hW' (fun q hq => ?_) hL
  rcases List.mem_append.mp hq with h | h
  · exact hlo q h
  · rw [List.mem_singleton.mp h]
    exact jad_ge ha2
theorem jup_at {α : Type} {f : Nat → Nat → α} {a k j : Nat} {x : α} : jup f a k x a j = if j = k then x else f a j := by
  unfold jup
  by_cases h : j = k
  · rw [if_pos ⟨rfl, h⟩, if_pos h]
  · rw [if_neg (fun q => h q.2), if_neg h]
theorem ev_puti {o idx ci k a : Nat} {x : Int32} (hd : decode y.2.1 pc = .ok (.putfield idx, 3)) (hoo : y.1.cls = jcn o) (hci : ci < 10) (hk : k < jNf ci) (hlink : Cond.fieldLink (jcn o) idx (jcn ci) (jTf ci k).2.1 (jTf ci k).2.2.1 ∈ jTbl) (hfin : (jTf ci k).2.2.2 = false) (hty : jtyf ci k = .int) (hkd : jSk r a = ci)
    (kk : Ev l G R y res mc ms c0 s0 (pc + 3) L st r (jup w.1 a k x, w.2)) : Ev l G R y res mc ms c0 s0 pc L (.int x :: .ref a :: st) r w := by
  refine ev_putv (v := .int x) (w' := (jup w.1 a k x, w.2)) hd hoo hci hk hlink hfin hkd (by rw [hty]; rfl) (by rw [hty]; rfl) (fun b h j => jup_ne h j) (fun _ _ _ => rfl) (fun j => ?_) kk
  show jfv G _ _ (jup w.1 a k x a j) _ = _
  rw [jup_at]
  by_cases h : j = k
  · subst h
    rw [if_pos rfl, if_pos rfl, hty]; rfl
  · rw [if_neg h, if_neg h]
theorem ev_putz {o idx ci k a : Nat} {x : Int32} (hd : decode y.2.1 pc = .ok (.putfield idx, 3)) (hoo : y.1.cls = jcn o) (hci : ci < 10) (hk : k < jNf ci) (hlink : Cond.fieldLink (jcn o) idx (jcn ci) (jTf ci k).2.1 (jTf ci k).2.2.1 ∈ jTbl) (hfin : (jTf ci k).2.2.2 = false) (hty : jtyf ci k = .boolean) (hkd : jSk r a = ci) (hz : jbo x = true)
    (kk : Ev l G R y res mc ms c0 s0 (pc + 3) L st r (jup w.1 a k x, w.2)) : Ev l G R y res mc ms c0 s0 pc L (.int x :: .ref a :: st) r w := by
  refine ev_putv (v := .int x) (w' := (jup w.1 a k x, w.2)) hd hoo hci hk hlink hfin hkd (by rw [hty]; exact jbo_narrow hz) (by rw [hty]; exact jbo_fits hz) (fun b h j => jup_ne h j) (fun _ _ _ => rfl) (fun j => ?_) kk
  show jfv G _ _ (jup w.1 a k x a j) _ = _
  rw [jup_at]
  by_cases h : j = k
  · subst h
    rw [if_pos rfl, if_pos rfl, hty]; rfl
  · rw [if_neg h, if_neg h]
theorem ev_putl {o idx ci k a : Nat} {x : Int64} (hd : decode y.2.1 pc = .ok (.putfield idx, 3)) (hoo : y.1.cls = jcn o) (hci : ci < 10) (hk : k < jNf ci) (hlink : Cond.fieldLink (jcn o) idx (jcn ci) (jTf ci k).2.1 (jTf ci k).2.2.1 ∈ jTbl) (hfin : (jTf ci k).2.2.2 = false) (hty : jtyf ci k = .long) (hkd : jSk r a = ci)
    (kk : Ev l G R y res mc ms c0 s0 (pc + 3) L st r (w.1, jup w.2 a k x)) : Ev l G R y res mc ms c0 s0 pc L (.long x :: .ref a :: st) r w := by
  refine ev_putv (v := .long x) (w' := (w.1, jup w.2 a k x)) hd hoo hci hk hlink hfin hkd (by rw [hty]; rfl) (by rw [hty]; rfl) (fun _ _ _ => rfl) (fun b h j => jup_ne h j) (fun j => ?_) kk
  show jfv G _ _ _ (jup w.2 a k x a j) = _
  rw [jup_at]
  by_cases h : j = k
  · subst h
    rw [if_pos rfl, if_pos rfl, hty]; rfl
  · rw [if_neg h, if_neg h]
/-- arrays -/
theorem ev_iald {a : Nat} {i : Int32} (hd : decode y.2.1 pc = .ok (.iaload, 1)) (hkd : jSk r a = 20) (hin : jin i (jSl r a) = true)
    (kk : Ev l G R y res mc ms c0 s0 (pc + 1) L (.int (w.1 a i.toNatClampNeg) :: st) r w) : Ev l G R y res mc ms c0 s0 pc L (.int i :: .ref a :: st) r w := by
  intro p e s m args below meth c H locs ls hx hb hn hr hlk ho hts hnm hK hW hlo hL
  have hc := (hW.2.2.2 a (by omega)).2.1 (Or.inl hkd)
  unfold jari at hc
  rw [hkd] at hc
  have hlt : i.toNatClampNeg < jSl r a := Nat.not_le.mp fun q => jin_not hin (Or.inr q)
  exact W.iald (v := .int (w.1 a i.toNatClampNeg)) hx hb hc ((hK.1.2 0 _ rfl).1 _ _) (fun q => by cases q) (by rw [arrV_size]; exact jin_not hin) (by rw [arrV_read _ _ hlt]) rfl rfl hd (kk p e s m args below meth c H locs ls hx hb hn hr hlk ho hts hnm hK hW hlo hL)
theorem ev_zald {a : Nat} {i : Int32} (hd : decode y.2.1 pc = .ok (.baload, 1)) (hkd : jSk r a = 21) (hin : jin i (jSl r a) = true)
    (kk : Ev l G R y res mc ms c0 s0 (pc + 1) L (.int (w.1 a i.toNatClampNeg) :: st) r w) : Ev l G R y res mc ms c0 s0 pc L (.int i :: .ref a :: st) r w := by
  intro p e s m args below meth c H locs ls hx hb hn hr hlk ho hts hnm hK hW hlo hL
  have hc := (hW.2.2.2 a (by omega)).2.1 (Or.inr hkd)
  unfold jari at hc
  rw [hkd] at hc
  have hlt : i.toNatClampNeg < jSl r a := Nat.not_le.mp fun q => jin_not hin (Or.inr q)
  exact W.zald (v := .int (w.1 a i.toNatClampNeg)) hx hb hc ((hK.1.2 1 _ rfl).1 _ _) (fun q => by cases q) (by rw [arrV_size]; exact jin_not hin) (by rw [arrV_read _ _ hlt]) rfl rfl hd (kk p e s m args below meth c H locs ls hx hb hn hr hlk ho hts hnm hK hW hlo hL)
theorem ev_lald {a : Nat} {i : Int32} (hd : decode y.2.1 pc = .ok (.laload, 1)) (hkd : jSk r a = 22) (hin : jin i (jSl r a) = true)
    (kk : Ev l G R y res mc ms c0 s0 (pc + 1) L (.long (w.2 a i.toNatClampNeg) :: st) r w) : Ev l G R y res mc ms c0 s0 pc L (.int i :: .ref a :: st) r w := by
  intro p e s m args below meth c H locs ls hx hb hn hr hlk ho hts hnm hK hW hlo hL
  have hc := (hW.2.2.2 a (by omega)).2.2 hkd
  unfold jarl at hc
  rw [hkd] at hc
  have hlt : i.toNatClampNeg < jSl r a := Nat.not_le.mp fun q => jin_not hin (Or.inr q)
  exact W.lald (v := .long (w.2 a i.toNatClampNeg)) hx hb hc ((hK.1.2 2 _ rfl).1 _ _) (fun q => by cases q) (by rw [arrV_size]; exact jin_not hin) (by rw [arrV_read _ _ hlt]) rfl rfl hd (kk p e s m args below meth c H locs ls hx hb hn hr hlk ho hts hnm hK hW hlo hL)
theorem ev_alen {a : Nat} (hd : decode y.2.1 pc = .ok (.arraylength, 1)) (hkd : jSk r a = 20 ∨ jSk r a = 21 ∨ jSk r a = 22)
    (kk : Ev l G R y res mc ms c0 s0 (pc + 1) L (.int (Int32.ofNat (jSl r a)) :: st) r w) : Ev l G R y res mc ms c0 s0 pc L (.ref a :: st) r w := by
  intro p e s m args below meth c H locs ls hx hb hn hr hlk ho hts hnm hK hW hlo hL
  have hc := hW.2.2.2 a (by omega)
  have hk := kk p e s m args below meth c H locs ls hx hb hn hr hlk ho hts hnm hK hW hlo hL
  rcases hkd with hkd | hkd | hkd
  · have h1 := hc.2.1 (Or.inl hkd)
    unfold jari at h1
    rw [hkd] at h1
    exact W.alen (n := Int32.ofNat (jSl r a)) hx hb h1 ((hK.1.2 0 _ rfl).1 _ _) (by rw [arrV_size] <;> rfl) rfl rfl hd hk
  · have h1 := hc.2.1 (Or.inr hkd)
    unfold jari at h1
    rw [hkd] at h1
    exact W.alen (n := Int32.ofNat (jSl r a)) hx hb h1 ((hK.1.2 1 _ rfl).1 _ _) (by rw [arrV_size] <;> rfl) rfl rfl hd hk
  · have h1 := hc.2.2 hkd
    unfold jarl at h1
    rw [hkd] at h1
    exact W.alen (n := Int32.ofNat (jSl r a)) hx hb h1 ((hK.1.2 2 _ rfl).1 _ _) (by rw [arrV_size] <;> rfl) rfl rfl hd hk
theorem jari_put {a k : Nat} {x : Int32} {H' : Heap} {cA : ClassId} (hcA : cA = G.2.1 (jSk r a)) (e : H'[jad G a]? = some ((arrV cA (jSl r a) (fun j => .int (w.1 a j))).setSlot k (.int x))) : jari G r (jup w.1 a k x, w.2) a H' := by
  unfold jari
  rw [e, arrV_store, hcA]
  congr 2
  funext j
  show (if j = k then Value.int x else .int (w.1 a j)) = .int (jup w.1 a k x a j)
  rw [jup_at]
  by_cases h : j = k
  · rw [if_pos h, if_pos h]
  · rw [if_neg h, if_neg h]
theorem jarl_put {a k : Nat} {x : Int64} {H' : Heap} {cA : ClassId} (hcA : cA = G.2.1 (jSk r a)) (e : H'[jad G a]? = some ((arrV cA (jSl r a) (fun j => .long (w.2 a j))).setSlot k (.long x))) : jarl G r (w.1, jup w.2 a k x) a H' := by
  unfold jarl
  rw [e, arrV_store, hcA]
  congr 2
  funext j
  show (if j = k then Value.long x else .long (w.2 a j)) = .long (jup w.2 a k x a j)
  rw [jup_at]
  by_cases h : j = k
  · rw [if_pos h, if_pos h]
  · rw [if_neg h, if_neg h]
theorem jlo_app {H0 : Heap} {locs : List Loc} {q k : Nat} (h : ∀ z ∈ locs, H0.size ≤ z.base) (hq : H0.size ≤ q) : ∀ z ∈ locs ++ [⟨q, k⟩], H0.size ≤ z.base := by
  intro z hz
  rcases List.mem_append.mp hz with h1 | h1
  · exact h z h1
  · rw [List.mem_singleton.mp h1]; exact hq
theorem ev_iast {a : Nat} {i x : Int32} (hd : decode y.2.1 pc = .ok (.iastore, 1)) (hkd : jSk r a = 20) (hin : jin i (jSl r a) = true)
    (kk : Ev l G R y res mc ms c0 s0 (pc + 1) L st r (jup w.1 a i.toNatClampNeg x, w.2)) : Ev l G R y res mc ms c0 s0 pc L (.int x :: .int i :: .ref a :: st) r w := by
  intro p e s m args below meth c H locs ls hx hb hn hr hlk ho hts hnm hK hW hlo hL
  have hc := (hW.2.2.2 a (by omega)).2.1 (Or.inl hkd)
  have h2 := (hW.2.2.1 a (by omega)).1
  unfold jari at hc
  refine W.iast hx hb hc (by rw [hkd]; exact (hK.1.2 0 _ rfl).1 _ _) (fun q => by cases q) (by rw [arrV_size]; exact jin_not hin) rfl rfl hd fun H' e1 e2 e3 => ?_
  refine kk p e s m args below meth c H' _ ls hx hb hn hr hlk ho hts hnm hK ?_ (jlo_app hlo (jad_ge h2)) hL
  exact hW.put (by omega) e2 e3 (fun b h j => jup_ne h j) (fun _ _ _ => rfl) ⟨fun h => by omega, fun _ => jari_put rfl e1, fun h => by omega⟩
theorem ev_zast {a : Nat} {i x : Int32} (hd : decode y.2.1 pc = .ok (.bastore, 1)) (hkd : jSk r a = 21) (hin : jin i (jSl r a) = true) (hz : jbo x = true)
    (kk : Ev l G R y res mc ms c0 s0 (pc + 1) L st r (jup w.1 a i.toNatClampNeg x, w.2)) : Ev l G R y res mc ms c0 s0 pc L (.int x :: .int i :: .ref a :: st) r w := by
  intro p e s m args below meth c H locs ls hx hb hn hr hlk ho hts hnm hK hW hlo hL
  have hc := (hW.2.2.2 a (by omega)).2.1 (Or.inr hkd)
  have h2 := (hW.2.2.1 a (by omega)).1
  unfold jari at hc
  refine W.zast hx hb hc (by rw [hkd]; exact (hK.1.2 1 _ rfl).1 _ _) (fun q => by cases q) (by rw [arrV_size]; exact jin_not hin) rfl rfl hd fun H' e1 e2 e3 => ?_
  rw [jbo_narrow hz] at e1
  refine kk p e s m args below meth c H' _ ls hx hb hn hr hlk ho hts hnm hK ?_ (jlo_app hlo (jad_ge h2)) hL
  exact hW.put (by omega) e2 e3 (fun b h j => jup_ne h j) (fun _ _ _ => rfl) ⟨fun h => by omega, fun _ => jari_put rfl e1, fun h => by omega⟩
theorem ev_last {a : Nat} {i : Int32} {x : Int64} (hd : decode y.2.1 pc = .ok (.lastore, 1)) (hkd : jSk r a = 22) (hin : jin i (jSl r a) = true)
    (kk : Ev l G R y res mc ms c0 s0 (pc + 1) L st r (w.1, jup w.2 a i.toNatClampNeg x)) : Ev l G R y res mc ms c0 s0 pc L (.long x :: .int i :: .ref a :: st) r w := by
  intro p e s m args below meth c H locs ls hx hb hn hr hlk ho hts hnm hK hW hlo hL
  have hc := (hW.2.2.2 a (by omega)).2.2 hkd
  have h2 := (hW.2.2.1 a (by omega)).1
  unfold jarl at hc
  refine W.last hx hb hc (by rw [hkd]; exact (hK.1.2 2 _ rfl).1 _ _) (fun q => by cases q) (by rw [arrV_size]; exact jin_not hin) rfl rfl hd fun H' e1 e2 e3 => ?_
  refine kk p e s m args below meth c H' _ ls hx hb hn hr hlk ho hts hnm hK ?_ (jlo_app hlo (jad_ge h2)) hL
  exact hW.put (by omega) e2 e3 (fun _ _ _ => rfl) (fun b h j => jup_ne h j) ⟨fun h => by omega, fun h => by omega, fun _ => jarl_put rfl e1⟩
end JH

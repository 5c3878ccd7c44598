/-! LAYER C of p48: the tricks -/
section D3
variable {w v : jW} {A : Nat → Int32} {c : Nat → Nat} {K k : Nat}
def Fin2 (A : Nat → Int32) (c : Nat → Nat) (K : Nat) (o : Option (Int32 × jW)) : Prop := ∃ v, o = some (1, v) ∧ FS A c K v
theorem tls_app {la : Int32} {sp : Nat} : ∀ m n t, tls A c la sp (m + n) t = tls A c la sp m t ++ tls A c la sp n (t + m) := by
  intro m
  induction m with
  | zero => intro n t; rw [Nat.zero_add]; rfl
  | succ m ih =>
    intro n t
    rw [show m + 1 + n = (m + n) + 1 by omega, tls, tls, ih, List.append_assoc, show t + 1 + m = t + (m + 1) by omega]
theorem sls_app {t p sp : Nat} : ∀ m n s, sls' A c t p sp (m + n) s = sls' A c t p sp m s ++ sls' A c t p sp n (s + m) := by
  intro m
  induction m with
  | zero => intro n s; rw [Nat.zero_add]; rfl
  | succ m ih =>
    intro n s
    rw [show m + 1 + n = (m + n) + 1 by omega, sls', sls', ih, List.append_assoc, show s + 1 + m = s + (m + 1) by omega]
theorem hit_at {pre rest : List Tr} {x : Tr} (h : pre.length < 2 ^ 31) : hit (nI pre.length) (pre ++ x :: rest) 0 = some x := by
  rw [hit_app]
  cases q : hit (nI pre.length) pre 0 with
  | some y =>
    obtain ⟨j, h1, h2, h3⟩ := hit_lt _ _ q
    have := (nI_eq (by omega) h).mp h3
    omega
  | none =>
    show hit (nI pre.length) (x :: rest) (0 + pre.length) = some x
    rw [hit, if_pos (by rw [Nat.zero_add])]
theorem hit_no {l : List Tr} (h : l.length < 2 ^ 31) : hit (nI l.length) l 0 = none := by
  cases q : hit (nI l.length) l 0 with
  | none => rfl
  | some y =>
    obtain ⟨j, h1, h2, h3⟩ := hit_lt _ _ q
    have := (nI_eq (by omega) h).mp h3
    omega
/-- two days without an eye there -/
theorem dls_2 (h13 : c 13 = 0) {t p s : Nat} : dls A c t p s 2 0 = if (!cld A c p && !cld A c s) = true then [(t, s, 0), (t, s, 1)] else [] := by
  have e : ∀ x d, see A c t x d = cld A c x := fun x d => by
    unfold see cld
    rw [h13, spt_0, Bool.false_and, Bool.and_false, Bool.and_false, Bool.or_false]
  have u : ∀ o, uns A c t p s o = (!cld A c p && !cld A c s) := fun o => by
    unfold uns
    rw [e, e]
  rw [dls, dls, dls, u, u]
  by_cases z : (!cld A c p && !cld A c s) = true
  · rw [if_pos z, if_pos z, if_pos z]; rfl
  · rw [if_neg z, if_neg z, if_neg z]; rfl
theorem l_102 (h : FS A c K w) {y : Nat} (hy : y < 5) {k6 : Int32 → Int32 → Int32 → Int32 → Int32 → Int32 → jW → Option (Int32 × jW)} {k28 : Int32 → Int32 → Int32 → Int32 → Int32 → Int32 → Int32 → Int32 → jW → Option (Int32 × jW)} {k90 : Int32 → Int32 → Int32 → Int32 → Int32 → Int32 → Int32 → Int32 → Int32 → Int32 → jW → Option (Int32 × jW)} {x4 x10 x11 x12 x13 x14 x15 : Int32} (hx : (x15 = 0 ∧ x12 = nI y) ∨ (x15 ≠ 0 ∧ x13 = nI y)) : ∀ m j f, j + m = c 5 → m < f → f_Law_tricks_h102 k6 k28 k90 f (nI (c 4)) x4 (nI (c 5)) (nI (c 0)) x10 x11 x12 x13 x14 x15 (lsl A (nI y) (nI (c 0)) j) (nI j) w = k90 (nI (c 4)) x4 (nI (c 5)) (nI (c 0)) x10 x11 x12 x13 (x14 &&& (if isl A c (nI y) = true then 0 else 1)) (x15 + 1) w := by
  obtain ⟨h0, h3, h4, h5, h1⟩ := FS_n h
  have hh := h
  obtain ⟨R, -, -, hST, hWY, hT, hM, hSs, hI, hS⟩ := hh
  intro m
  induction m with
  | zero =>
    intro j f hj hf
    obtain ⟨f, rfl⟩ : ∃ j, f = j + 1 := ⟨f - 1, by omega⟩
    obtain rfl : j = c 5 := by omega
    rw [f_Law_tricks_h102, if_neg (nI_nlt (by omega) (by omega))]
    rcases lsl_c (A := A) (x := nI y) (d := nI (c 0)) (c 5) with e | ⟨a, a1, a2, a3, a4⟩
    · have ei : isl A c (nI y) = false := by unfold isl; rw [e, if_pos rfl]
      rw [e, if_pos (by decide), ei, if_neg (by decide)]
    · obtain ⟨y1, y2⟩ := sdy_e R a1
      have ei : isl A c (nI y) = !brk A (nI y) (sdy A a) (nI (c 0)) (c 4) 0 := by
        unfold isl
        rw [a2, if_neg (nI_ne_m1 (by omega)), nI_clamp (by omega)]
      rw [a2, if_neg (nI_pos (by omega)), l_whole hM hSs h4 h5 a1 y1 (nI (c 0)), a3, ob]
      dsimp only
      rw [← ei]
      cases hq : isl A c (nI y) with
      | false => rw [bz_f, if_pos rfl, if_neg (by decide)]
      | true => rw [bz_t, if_neg one_ne, if_pos rfl]
  | succ m ih =>
    intro j f hj hf
    obtain ⟨f, rfl⟩ : ∃ j, f = j + 1 := ⟨f - 1, by omega⟩
    have hj5 : j < c 5 := by omega
    obtain ⟨y1, y2⟩ := sdy_e R hj5
    have le0 : A (1520 + 4 * j + 1) ≤ nI (c 0) := by rw [y1]; exact nI_le y2 (by omega)
    have st := ih (j + 1) f (by omega) (by omega)
    rw [lsl] at st
    have g1 : jal [jin (2 * nI j) 16] = true := by rw [im_2, jal_c, jal_n, jin_nI (by omega) (by omega)]; rfl
    have j128 : ∀ s0 : Int32, s0 = nI y → f_Law_tricks_j128 k6 k28 k90 (f_Law_tricks_h102 k6 k28 k90 f) (nI (c 4)) x4 (nI (c 5)) (nI (c 0)) x10 x11 x12 x13 x14 x15 (lsl A (nI y) (nI (c 0)) j) (nI j) s0 (w.1 100 (Int32.toNatClampNeg (2 * nI j))) w = k90 (nI (c 4)) x4 (nI (c 5)) (nI (c 0)) x10 x11 x12 x13 (x14 &&& (if isl A c (nI y) = true then 0 else 1)) (x15 + 1) w := fun s0 hs0 => by
      rw [f_Law_tricks_j128, im_2, nI_clamp (by omega), (hSs j hj5).1, ip_1, hs0]
      by_cases z : A (1520 + 4 * j) = nI y
      · rw [if_pos z]
        rw [if_pos ⟨z, le0⟩] at st
        exact st
      · rw [if_neg z]
        rw [if_neg (fun u => z u.1)] at st
        exact st
    rw [f_Law_tricks_h102, if_pos (nI_lt hj5 (by omega)), if_pos g1]
    rcases hx with ⟨hx1, hx2⟩ | ⟨hx1, hx2⟩
    · rw [if_pos hx1]; exact j128 x12 hx2
    · rw [if_neg hx1]; exact j128 x13 hx2
theorem spn_2 (h : FS A c K w) : spn c 2 = 2 := by
  have := (FS_n h).1
  unfold spn
  rw [if_neg (by omega)]
/-- one trick, told -/
theorem l_trick (h : FS A c K w) {I : Nat} {j : Int32} {x : Tr} (hI : I < 2 ^ 31) (hx : hit (nI I) (tls A c 0 2 (c 3) 0) 0 = some x) : ∃ v, f_Count_trick 0 2 (nI I) j w = some ((if j = 0 then nI x.1 else if j = 1 then nI x.2.1 else if j = 2 then nI (c 0 + x.2.2) else -1), v) ∧ FS A c K v := by
  obtain ⟨v, e1, k1, R1⟩ := s_trick h.1 (x := 0) (j := j) (n := 2) (I := I) (by decide) (by omega) (by omega) hI
  rw [spn_2 h, hx] at e1
  exact ⟨v, e1, FS_kp h k1 R1⟩
/-- both seals looked at, the tricks compared -/
theorem l_90 (h : FS A c K w) {t p s n : Nat} {fr : Bool} (ht : t < 8) (hp : p < 5) (hs : s < 5) (hn : n < 1000) {k6 : Int32 → Int32 → Int32 → Int32 → Int32 → Int32 → jW → Option (Int32 × jW)} {k28 : Int32 → Int32 → Int32 → Int32 → Int32 → Int32 → Int32 → Int32 → jW → Option (Int32 × jW)} (next : ∀ v n', FS A c K v → n' = n + (if (fr && (!isl A c (nI p) && !isl A c (nI s))) = true then 2 else 0) → Fin2 A c K (k28 (nI (c 4)) (nI (c 3)) (nI (c 5)) (nI (c 0)) (nI n') (nI t) (nI p) (nI (s + 1)) v)) (hx : (fr && (!isl A c (nI p) && !isl A c (nI s))) = true → hit (nI n) (tls A c 0 2 (c 3) 0) 0 = some (t, s, 0) ∧ hit (nI (n + 1)) (tls A c 0 2 (c 3) 0) 0 = some (t, s, 1)) : Fin2 A c K (f_Law_tricks_h90 k6 k28 jfu (nI (c 4)) (nI (c 3)) (nI (c 5)) (nI (c 0)) (nI n) (nI t) (nI p) (nI s) (bz fr) 0 w) := by
  obtain ⟨h0, h3, h4, h5, h1⟩ := FS_n h
  obtain ⟨f, hf⟩ : ∃ f, jfu = f + 3 := ⟨jfu - 3, by unfold jfu; omega⟩
  have r0 := l_102 h hp (k6 := k6) (k28 := k28) (k90 := f_Law_tricks_h90 k6 k28 (f + 2)) (x4 := nI (c 3)) (x10 := nI n) (x11 := nI t) (x12 := nI p) (x13 := nI s) (x14 := bz fr) (x15 := 0) (Or.inl ⟨rfl, rfl⟩) (c 5) 0 jfu (by omega) (by unfold jfu; omega)
  have r0' : f_Law_tricks_h102 k6 k28 (f_Law_tricks_h90 k6 k28 (f + 2)) jfu (nI (c 4)) (nI (c 3)) (nI (c 5)) (nI (c 0)) (nI n) (nI t) (nI p) (nI s) (bz fr) 0 (-1) 0 w = _ := r0
  have r1 := fun x14 => l_102 h hs (k6 := k6) (k28 := k28) (k90 := f_Law_tricks_h90 k6 k28 (f + 1)) (x4 := nI (c 3)) (x10 := nI n) (x11 := nI t) (x12 := nI p) (x13 := nI s) (x14 := x14) (x15 := 1) (Or.inr ⟨by decide, rfl⟩) (c 5) 0 jfu (by omega) (by unfold jfu; omega)
  have r1' : ∀ x14, f_Law_tricks_h102 k6 k28 (f_Law_tricks_h90 k6 k28 (f + 1)) jfu (nI (c 4)) (nI (c 3)) (nI (c 5)) (nI (c 0)) (nI n) (nI t) (nI p) (nI s) x14 1 (-1) 0 w = _ := r1
  have eb : bz fr &&& (if isl A c (nI p) = true then 0 else 1) &&& (if isl A c (nI s) = true then 0 else 1) = bz (fr && (!isl A c (nI p) && !isl A c (nI s))) := by
    cases fr <;> cases isl A c (nI p) <;> cases isl A c (nI s) <;> decide
  rw [hf, f_Law_tricks_h90, if_pos (by decide), r0', f_Law_tricks_h90, if_pos (by decide), show (0 : Int32) + 1 = 1 from by decide, r1', f_Law_tricks_h90, if_neg (by decide), eb]
  generalize hfr : (fr && (!isl A c (nI p) && !isl A c (nI s))) = fr' at *
  cases fr' with
  | false =>
    rw [bz_f, if_pos rfl, ip_1]
    exact next w n h (by rw [if_neg (by decide)]; rfl)
  | true =>
    obtain ⟨x1, x2⟩ := hx rfl
    obtain ⟨v1, e1, g1⟩ := l_trick h (I := n) (j := 0) (by omega) x1
    obtain ⟨v2, e2, g2⟩ := l_trick g1 (I := n) (j := 1) (by omega) x1
    obtain ⟨v3, e3, g3⟩ := l_trick g2 (I := n + 1) (j := 2) (by omega) x2
    have e1' : f_Count_trick 0 2 (nI n) 0 w = some (nI t, v1) := e1.trans (by rw [if_pos rfl])
    have e2' : f_Count_trick 0 2 (nI n) 1 v1 = some (nI s, v2) := e2.trans (by rw [if_neg one_ne, if_pos rfl])
    have e3' : f_Count_trick 0 2 (nI (n + 1)) 2 v2 = some (nI (c 0 + 1), v3) := e3.trans (by rw [if_neg (show ¬ (2 : Int32) = 0 by decide), if_neg (show ¬ (2 : Int32) = 1 by decide), if_pos rfl])
    rw [bz_t, if_neg one_ne, e1', ob]
    dsimp only
    rw [if_pos rfl, e2', ob]
    dsimp only
    rw [if_pos rfl, ip_1, e3', ob]
    dsimp only
    rw [ip_1, if_pos rfl, ip_2, ip_1]
    exact next v3 (n + 2) g3 (by rw [if_pos rfl])
/-- the sites -/
theorem l_28 {t p : Nat} (ht : t < c 3) (hw : mwh A (c 4) t (nI (c 0)) = nI p) (hp : p < 5) {k6 : Int32 → Int32 → Int32 → Int32 → Int32 → Int32 → jW → Option (Int32 × jW)} {pre rest : List Tr} (hL : tls A c 0 2 (c 3) 0 = pre ++ (sls' A c t p 2 5 0 ++ rest)) (hpre : pre.length ≤ 200) (next : ∀ v, FS A c K v → Fin2 A c K (k6 (nI (c 4)) (nI (c 3)) (nI (c 5)) (nI (c 0)) (nI (pre.length + (sls' A c t p 2 5 0).length)) (nI (t + 1)) v)) : ∀ m s f (w : jW), s + m = 5 → m < f → FS A c K w → Fin2 A c K (f_Law_tricks_h28 k6 f (nI (c 4)) (nI (c 3)) (nI (c 5)) (nI (c 0)) (nI (pre.length + (sls' A c t p 2 s 0).length)) (nI t) (nI p) (nI s) w) := by
  intro m
  induction m with
  | zero =>
    intro s f w hs hf h
    obtain ⟨f, rfl⟩ : ∃ j, f = j + 1 := ⟨f - 1, by omega⟩
    obtain rfl : s = 5 := by omega
    rw [f_Law_tricks_h28, if_neg (by decide), ip_1]
    exact next w h
  | succ m ih =>
    intro s f w hs hf h
    obtain ⟨f, rfl⟩ : ∃ j, f = j + 1 := ⟨f - 1, by omega⟩
    obtain ⟨h0, h3, h4, h5, h1⟩ := FS_n h
    have hh := h
    obtain ⟨R, -, hZ, hST, ⟨W, hW, hD⟩, hT, hM, hSs, hI, hS⟩ := hh
    have h13 : c 13 = 0 := hZ.2.2.2.2.1
    have hs5 : s < 5 := by omega
    have l3 := sls_len (A := A) (c := c) (t := t) (p := p) (sp := 2) (by omega) s 0
    have e1 : sls' A c t p 2 (s + 1) 0 = sls' A c t p 2 s 0 ++ (if dst A (c 2) p s ≤ 0 then [] else dls A c t p s 2 0) := by
      have q := sls_app (A := A) (c := c) (t := t) (p := p) (sp := 2) s 1 0
      rw [Nat.zero_add] at q
      rw [q]
      congr 1
      rw [sls']
      exact List.append_nil _
    have e5 : sls' A c t p 2 5 0 = sls' A c t p 2 (s + 1) 0 ++ sls' A c t p 2 (5 - (s + 1)) (s + 1) := by
      have q := sls_app (A := A) (c := c) (t := t) (p := p) (sp := 2) (s + 1) (5 - (s + 1)) 0
      rw [Nat.zero_add, show s + 1 + (5 - (s + 1)) = 5 by omega] at q
      exact q
    -- what the law asks of way and portals
    have j85 : ∀ fr : Bool, (fr = true ↔ (¬ dst A (c 2) p s ≤ 0 ∧ A (40 + 8 * p + 2) ≠ 1 ∧ A (40 + 8 * s + 2) ≠ 1)) → Fin2 A c K (f_Law_tricks_j85 k6 (f_Law_tricks_h28 k6 f) (nI (c 4)) (nI (c 3)) (nI (c 5)) (nI (c 0)) (nI (pre.length + (sls' A c t p 2 s 0).length)) (nI t) (nI p) (nI s) (bz fr) w) := fun fr hfr => by
      rw [f_Law_tricks_j85]
      have all : (fr && (!isl A c (nI p) && !isl A c (nI s))) = true ↔ (¬ dst A (c 2) p s ≤ 0 ∧ (!cld A c p && !cld A c s) = true) := by
        unfold cld
        by_cases z1 : A (40 + 8 * p + 2) = 1 <;> by_cases z2 : A (40 + 8 * s + 2) = 1 <;> by_cases z3 : dst A (c 2) p s ≤ 0 <;> cases fr <;> cases isl A c (nI p) <;> cases isl A c (nI s) <;> simp [z1, z2, z3] at hfr ⊢
      have el : (if dst A (c 2) p s ≤ 0 then [] else dls A c t p s 2 0) = if (fr && (!isl A c (nI p) && !isl A c (nI s))) = true then [(t, s, 0), (t, s, 1)] else [] := by
        rw [dls_2 h13]
        by_cases z : (fr && (!isl A c (nI p) && !isl A c (nI s))) = true
        · obtain ⟨u1, u2⟩ := all.mp z
          rw [if_pos z, if_neg u1, if_pos u2]
        · rw [if_neg z]
          by_cases z3 : dst A (c 2) p s ≤ 0
          · rw [if_pos z3]
          · rw [if_neg z3, if_neg (fun u => z (all.mpr ⟨z3, u⟩))]
      refine l_90 h (by omega) hp hs5 (by omega) (fun v n' hv hn' => ?_) (fun z => ?_)
      · have := ih (s + 1) f v (by omega) (by omega) hv
        rw [e1, el, List.length_append] at this
        rw [hn']
        by_cases z : (fr && (!isl A c (nI p) && !isl A c (nI s))) = true
        · rw [if_pos z] at this ⊢
          rw [show pre.length + (sls' A c t p 2 s 0).length + 2 = pre.length + ((sls' A c t p 2 s 0).length + [(t, s, 0), (t, s, 1)].length) by simp; omega]
          exact this
        · rw [if_neg z] at this ⊢
          exact this
      · have eL : tls A c 0 2 (c 3) 0 = (pre ++ sls' A c t p 2 s 0) ++ (t, s, 0) :: ((t, s, 1) :: (sls' A c t p 2 (5 - (s + 1)) (s + 1) ++ rest)) := by
          rw [hL, e5, e1, el, if_pos z]; simp
        have eL2 : tls A c 0 2 (c 3) 0 = ((pre ++ sls' A c t p 2 s 0) ++ [(t, s, 0)]) ++ (t, s, 1) :: (sls' A c t p 2 (5 - (s + 1)) (s + 1) ++ rest) := by
          rw [eL]; simp
        constructor
        · rw [eL, ← List.length_append]
          exact hit_at (by rw [List.length_append]; omega)
        · rw [eL2, show pre.length + (sls' A c t p 2 s 0).length + 1 = ((pre ++ sls' A c t p 2 s 0) ++ [(t, s, 0)]).length by rw [List.length_append, List.length_append]; rfl]
          exact hit_at (by simp; omega)
    have j84 : (dst A (c 2) p s ≤ 0 ∨ A (40 + 8 * p + 2) = 1 ∨ A (40 + 8 * s + 2) = 1) → Fin2 A c K (f_Law_tricks_j84 k6 (f_Law_tricks_h28 k6 f) (nI (c 4)) (nI (c 3)) (nI (c 5)) (nI (c 0)) (nI (pre.length + (sls' A c t p 2 s 0).length)) (nI t) (nI p) (nI s) w) := fun z => by
      rw [f_Law_tricks_j84]
      exact j85 false ⟨fun q => absurd q (by decide), fun q => z.elim (fun u => absurd u q.1) (fun u => u.elim (fun u => absurd u q.2.1) (fun u => absurd u q.2.2))⟩
    have pb : ∀ x, x < 5 → (w.1 93 x = 0 ↔ A (40 + 8 * x + 2) ≠ 1) ∧ w.1 93 x = A (40 + 8 * x + 2) := fun x hx => by
      have e := (hST x hx).2.2
      refine ⟨?_, e⟩
      obtain ⟨-, -, ⟨n, n1, n2, n3⟩, -⟩ := p_Isite R x (by omega)
      rw [e, n1]
      rcases (show n = 0 ∨ n = 1 by omega) with rfl | rfl
      · exact ⟨fun _ => by decide, fun _ => rfl⟩
      · exact ⟨fun u => absurd u (by decide), fun u => absurd rfl u⟩
    rw [f_Law_tricks_h28, if_pos (show nI s < 5 from nI_lt (b := 5) hs5 (by omega)), if_pos (show nI p < 100 from nI_lt (b := 100) (by omega) (by omega))]
    by_cases y : s = p
    · subst y
      rw [if_pos rfl]
      refine j84 (Or.inl ?_)
      rcases hD s s hs5 hs5 with ⟨d1, d2⟩ | ⟨d1, d2⟩
      · rw [dst_e d2]; decide
      · rw [dst_e d2, Dis_self d2]; decide
    have g1 : jal [jin (nI (5 * p + s)) 25] = true := by rw [jal_c, jal_n, jin_nI (by omega) (by omega)]; rfl
    have gp : jal [jin (nI p) 5] = true := by rw [jal_c, jal_n, jin_nI (by omega) (by omega)]; rfl
    have gs : jal [jin (nI s) 5] = true := by rw [jal_c, jal_n, jin_nI (by omega) (by omega)]; rfl
    rw [if_neg (nI_ne' (by omega) (by omega) y), im_5, nI_add, if_pos g1, nI_clamp (by omega), hW p s hp hs5]
    rcases hD p s hp hs5 with ⟨d1, d2⟩ | ⟨d1, d2⟩
    · rw [if_neg (by rw [d1]; decide)]
      exact j84 (Or.inl (by rw [dst_e d2]; decide))
    have dp : ¬ dst A (c 2) p s ≤ 0 := by
      rw [dst_e d2]
      rcases Dis_pos d2 y with e | ⟨l', e1, e2, e3⟩
      · exact absurd e (nI_ne_m1 (by omega))
      · rw [e3]; exact nI_ge (a := 0) (by omega) (by omega)
    rw [if_pos (show nI (W p s) < 900 from nI_lt (b := 900) (by omega) (by omega)), if_pos gp, nI_clamp (by omega)]
    by_cases y1 : w.1 93 p = 0
    rotate_left
    · rw [if_neg y1]
      exact j84 (Or.inr (Or.inl (Decidable.byContradiction fun u => y1 ((pb p hp).1.mpr u))))
    rw [if_pos y1, if_pos gs, nI_clamp (by omega)]
    by_cases y2 : w.1 93 s = 0
    rotate_left
    · rw [if_neg y2]
      exact j84 (Or.inr (Or.inr (Decidable.byContradiction fun u => y2 ((pb s hs5).1.mpr u))))
    rw [if_pos y2]
    exact j85 true ⟨fun _ => ⟨dp, (pb p hp).1.mp y1, (pb s hs5).1.mp y2⟩, fun _ => rfl⟩
/-- the things -/
theorem lt_6 : ∀ m t f (w : jW), t + m = c 3 → m < f → FS A c K w → Fin2 A c K (f_Law_tricks_h6 f (nI (c 4)) (nI (c 3)) (nI (c 5)) (nI (c 0)) (nI (tls A c 0 2 t 0).length) (nI t) w) := by
  have len : ∀ t, t ≤ 8 → (tls A c 0 2 t 0).length ≤ 30 * 10 * t ∨ ¬ c 1 ≤ 10 := fun t ht => by
    by_cases z : c 1 ≤ 10
    · exact Or.inl (by have := tls_len (A := A) (c := c) (la := 0) (sp := 2) (by omega) z t 0; omega)
    · exact Or.inr z
  intro m
  induction m with
  | zero =>
    intro t f w ht hf h
    obtain ⟨f, rfl⟩ : ∃ j, f = j + 1 := ⟨f - 1, by omega⟩
    obtain ⟨h0, h3, h4, h5, h1⟩ := FS_n h
    have et : t = c 3 := by omega
    subst et
    have ln := (len (c 3) h3).resolve_right (by omega)
    obtain ⟨v1, e1, k1, R1⟩ := s_unseen h.1 (x := 0) (n := 2) (by decide) (by omega) (by omega)
    have f1 := FS_kp h k1 R1
    obtain ⟨v2, e2, k2, R2⟩ := s_trick f1.1 (x := 0) (j := 0) (n := 2) (I := (tls A c 0 2 (c 3) 0).length) (by decide) (by omega) (by omega) (by omega)
    have f2 := FS_kp f1 k2 R2
    obtain ⟨v3, e3, k3, R3⟩ := s_unseen f2.1 (x := 1) (n := 2) (by decide) (by omega) (by omega)
    have f3 := FS_kp f2 k3 R3
    rw [spn_2 h] at e1 e2 e3
    rw [hit_no (by omega)] at e2
    have no1 : ∀ m t, t + m ≤ c 3 → tls A c 1 2 m t = [] := by
      intro m
      induction m with
      | zero => intro t _; rfl
      | succ m ih =>
        intro t ht
        have hh := h
        obtain ⟨R, -, hZ, hST, -⟩ := hh
        obtain ⟨sx, th1, th2, th3, th4⟩ := (p_Ithing R).1 t (by omega)
        rw [tls, ih (t + 1) (by omega), if_neg (fun u => by
          rw [th3, (hST sx (by omega)).1] at u
          exact absurd u.1 (by decide))]; rfl
    rw [no1 (c 3) 0 (by omega)] at e3
    have e1' : f_Count_unseen 0 2 w = some (nI (tls A c 0 2 (c 3) 0).length, v1) := e1
    have e2' : f_Count_trick 0 2 (nI (tls A c 0 2 (c 3) 0).length) 0 v1 = some (-1, v2) := e2
    have e3' : f_Count_unseen 1 2 v2 = some (0, v3) := e3
    refine ⟨v3, ?_, f3⟩
    rw [f_Law_tricks_h6, if_neg (nI_nlt (by omega) (by omega)), e1', ob]
    dsimp only
    rw [if_pos rfl, e2', ob]
    dsimp only
    rw [if_pos rfl, e3', ob]
    dsimp only
    rw [if_pos rfl]
  | succ m ih =>
    intro t f w ht hf h
    obtain ⟨f, rfl⟩ : ∃ j, f = j + 1 := ⟨f - 1, by omega⟩
    obtain ⟨h0, h3, h4, h5, h1⟩ := FS_n h
    have hh := h
    obtain ⟨R, -, hZ, hST, hWY, hT, hM, hSs, hI, hS⟩ := hh
    have ht3 : t < c 3 := by omega
    have ln := (len t (by omega)).resolve_right (by omega)
    obtain ⟨sx, th1, th2, th3, th4⟩ := (p_Ithing R).1 t ht3
    have land : A (240 + 12 * t + 3) = 0 := by rw [th3, (hST sx (by omega)).1]
    obtain ⟨p, hp, hp2⟩ := pl_cases R hI ht3 (c 0) (by omega)
    have e1 : tls A c 0 2 (t + 1) 0 = tls A c 0 2 t 0 ++ tls A c 0 2 1 t := by
      have q := tls_app (A := A) (c := c) (la := 0) (sp := 2) t 1 0
      rw [Nat.zero_add] at q
      exact q
    have eall : tls A c 0 2 (c 3) 0 = tls A c 0 2 t 0 ++ (tls A c 0 2 1 t ++ tls A c 0 2 (c 3 - (t + 1)) (t + 1)) := by
      have q := tls_app (A := A) (c := c) (la := 0) (sp := 2) (t + 1) (c 3 - (t + 1)) 0
      rw [Nat.zero_add, show t + 1 + (c 3 - (t + 1)) = c 3 by omega] at q
      rw [q, e1, List.append_assoc]
    rw [f_Law_tricks_h6, if_pos (nI_lt ht3 (by omega)), l_where hT hM h3 h4 ht3 (nI (c 0)), ob]
    dsimp only
    rw [hp]
    rcases hp2 with hp2 | hp2
    · have e2 : tls A c 0 2 1 t = sls' A c t p 2 5 0 := by
        rw [tls, land, hp, if_pos ⟨rfl, nI_lt (b := 100) (by omega) (by omega)⟩, nI_clamp (by omega), h1]
        exact List.append_nil _
      rw [e2] at eall e1
      have l30 : (tls A c 0 2 t 0).length ≤ 2400 := by omega
      have l2 : ∀ t, t ≤ 8 → (tls A c 0 2 t 0).length ≤ 10 * t := by
        intro t
        induction t with
        | zero => intro _; exact Nat.le_refl _
        | succ t iht =>
          intro ht
          have q := tls_app (A := A) (c := c) (la := 0) (sp := 2) t 1 0
          rw [Nat.zero_add] at q
          have hone : (tls A c 0 2 1 t).length ≤ 10 := by
            rw [tls, List.length_append]
            show _ + 0 ≤ 10
            split
            · have hs2 : ∀ m s, (sls' A c t (mwh A (c 4) t (nI (c 0))).toNatClampNeg 2 m s).length ≤ 2 * m := by
                intro m
                induction m with
                | zero => intro s; exact Nat.le_refl _
                | succ m ihm =>
                  intro s
                  rw [sls', List.length_append]
                  have := ihm (s + 1)
                  have := dls_len (A := A) (c := c) (t := t) (p := (mwh A (c 4) t (nI (c 0))).toNatClampNeg) (s := s) 2 0
                  split
                  · rw [List.length_nil]; omega
                  · omega
              have := hs2 (c 1) 0
              omega
            · rw [List.length_nil]; omega
          have := iht (by omega)
          rw [q, List.length_append]; omega
      have := l2 t (by omega)
      exact l_28 ht3 hp hp2 eall (by omega) (fun v hv => by
        have := ih (t + 1) f v (by omega) (by omega) hv
        rw [e1, List.length_append] at this
        exact this) 5 0 jfu w (by omega) (by unfold jfu; omega) h
    · have e2 : tls A c 0 2 1 t = [] := by
        rw [tls, hp, if_neg (fun u => (nI_nlt (a := p) (b := 100) (by omega) (by omega)) u.2)]; rfl
      obtain ⟨f', hf'⟩ : ∃ f', jfu = f' + 1 := ⟨jfu - 1, by unfold jfu; omega⟩
      rw [hf', f_Law_tricks_h28, if_pos (by decide), if_neg (show ¬ nI p < 100 from nI_nlt (a := p) (b := 100) (by omega) (by omega)), ip_1]
      have := ih (t + 1) f w (by omega) (by omega) h
      rw [e1, e2, List.append_nil] at this
      exact this
theorem l_tricks (h : FS A c K w) : ∃ v, f_Law_tricks (nI (c 4)) (nI (c 3)) (nI (c 5)) (nI (c 0)) w = some (1, v) ∧ FS A c K v := lt_6 (c 3) 0 jfu w (by omega) (by have := (FS_n h).2.1; unfold jfu; omega) h
end D3

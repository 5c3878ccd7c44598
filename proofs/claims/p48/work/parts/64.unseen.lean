/-! LAYER B: what would not be seen -/
section UN
abbrev Tr : Type := Nat × Nat × Nat
/-- the triple met when as many as are wanted were met ahead -/
def hit (iw : Int32) : List Tr → Nat → Option Tr
  | [], _ => none
  | x :: l, n => if nI n = iw then some x else hit iw l (n + 1)
theorem hit_app {iw : Int32} : ∀ (l l' : List Tr) (n : Nat), hit iw (l ++ l') n = (match hit iw l n with | some x => some x | none => hit iw l' (n + l.length)) := by
  intro l
  induction l with
  | nil => intro l' n; rfl
  | cons x l ih =>
    intro l' n
    rw [List.cons_append, hit, hit]
    by_cases q : nI n = iw
    · rw [if_pos q, if_pos q]
    · rw [if_neg q, if_neg q, ih, List.length_cons, show n + 1 + l.length = n + (l.length + 1) by omega]
theorem hit_lt {iw : Int32} {x : Tr} : ∀ (l : List Tr) (n : Nat), hit iw l n = some x → ∃ j, n ≤ j ∧ j < n + l.length ∧ nI j = iw := by
  intro l
  induction l with
  | nil => intro n h; cases h
  | cons y l ih =>
    intro n h
    rw [hit] at h
    by_cases q : nI n = iw
    · exact ⟨n, Nat.le_refl _, by rw [List.length_cons]; omega, q⟩
    · rw [if_neg q] at h
      obtain ⟨j, h1, h2, h3⟩ := ih _ h
      exact ⟨j, by omega, by rw [List.length_cons]; omega, h3⟩
theorem hit_of {iw : Int32} {j : Nat} (hj : nI j = iw) : ∀ (l : List Tr) (n : Nat), n ≤ j → j < n + l.length → ∃ x, hit iw l n = some x := by
  intro l
  induction l with
  | nil => intro n h1 h2; rw [List.length_nil] at h2; omega
  | cons y l ih =>
    intro n h1 h2
    rw [hit]
    by_cases q : nI n = iw
    · exact ⟨y, if_pos q⟩
    · rw [if_neg q]
      have : n ≠ j := fun z => q (z ▸ hj)
      rw [List.length_cons] at h2
      exact ih (n + 1) (by omega) (by omega)
def see (A : Nat → Int32) (c : Nat → Nat) (t s d : Nat) : Bool := (decide (A (40 + 8 * s + 2) = 1) || isl A c (nI s)) || (!decide (A (240 + 12 * t + 1) < A 16) && (decide (A (40 + 8 * s + 3) = 0) && (spt A 20880 (nI s) (nI d) (c 13) 0 && !spt A 20760 (nI s) (nI d) (c 12) 0)))
def uns (A : Nat → Int32) (c : Nat → Nat) (t p s o : Nat) : Bool := !see A c t p (c 0 + o) && !see A c t s (c 0 + o)
def dls (A : Nat → Int32) (c : Nat → Nat) (t p s : Nat) : Nat → Nat → List Tr
  | 0, _ => []
  | m + 1, o => (if uns A c t p s o = true then [(t, s, o)] else []) ++ dls A c t p s m (o + 1)
noncomputable def dst (A : Nat → Int32) (nr p s : Nat) : Int32 := @dite Int32 (∃ x, Dis A nr p s x) (Classical.propDecidable _) (fun h => Classical.choose h) (fun _ => -1)
theorem dst_e {A : Nat → Int32} {nr p s : Nat} {x : Int32} (h : Dis A nr p s x) : dst A nr p s = x := by
  have e : ∃ x, Dis A nr p s x := ⟨x, h⟩
  unfold dst
  rw [dif_pos e]
  exact Dis_un (Classical.choose_spec e) h
noncomputable def sls' (A : Nat → Int32) (c : Nat → Nat) (t p sp : Nat) : Nat → Nat → List Tr
  | 0, _ => []
  | m + 1, s => (if dst A (c 2) p s ≤ 0 then [] else dls A c t p s sp 0) ++ sls' A c t p sp m (s + 1)
noncomputable def tls (A : Nat → Int32) (c : Nat → Nat) (la : Int32) (sp : Nat) : Nat → Nat → List Tr
  | 0, _ => []
  | m + 1, t => (if A (240 + 12 * t + 3) = la ∧ mwh A (c 4) t (nI (c 0)) < 100 then sls' A c t (mwh A (c 4) t (nI (c 0))).toNatClampNeg sp (c 1) 0 else []) ++ tls A c la sp m (t + 1)
theorem dls_len {A : Nat → Int32} {c : Nat → Nat} {t p s : Nat} : ∀ m o, (dls A c t p s m o).length ≤ m := by
  intro m
  induction m with
  | zero => intro o; exact Nat.le_refl _
  | succ m ih =>
    intro o
    rw [dls, List.length_append]
    have := ih (o + 1)
    split <;> simp <;> omega
theorem sls_len {A : Nat → Int32} {c : Nat → Nat} {t p sp : Nat} (h : sp ≤ 30) : ∀ m s, (sls' A c t p sp m s).length ≤ 30 * m := by
  intro m
  induction m with
  | zero => intro o; exact Nat.le_refl _
  | succ m ih =>
    intro s
    rw [sls', List.length_append]
    have := ih (s + 1)
    have := dls_len (A := A) (c := c) (t := t) (p := p) (s := s) sp 0
    split
    · rw [List.length_nil]; omega
    · omega
variable {w v z0 : jW} {A : Nat → Int32} {c ci : Nat → Nat} {K : Nat}
/-- a place that is closed sees all -/
def cld (A : Nat → Int32) (c : Nat → Nat) (s : Nat) : Bool := decide (A (40 + 8 * s + 2) = 1) || isl A c (nI s)
theorem dls_cld {t p s : Nat} (h : cld A c p = true ∨ cld A c s = true) : ∀ m o, dls A c t p s m o = [] := by
  intro m
  induction m with
  | zero => intro o; rfl
  | succ m ih =>
    intro o
    have e : uns A c t p s o = false := by
      unfold uns see
      unfold cld at h
      rcases h with h | h
      · rw [h, Bool.true_or]; rfl
      · rw [h, Bool.true_or, Bool.not_true, Bool.and_false]
    rw [dls, ih, e]; rfl
theorem sls_cld {t p sp : Nat} (h : cld A c p = true) : ∀ m s, sls' A c t p sp m s = [] := by
  intro m
  induction m with
  | zero => intro s; rfl
  | succ m ih =>
    intro s
    rw [sls', ih, dls_cld (Or.inl h)]
    split <;> rfl
/-! the class -/
/-- what its eyes know -/
def Eye (v : jW) (A : Nat → Int32) (c : Nat → Nat) (sp : Nat) : Prop := (∀ s, s < c 1 → v.1 91 s = bz (cld A c s)) ∧ ∀ s o, s < c 1 → o < sp → v.1 92 (s * 30 + o) = bz (decide (A (40 + 8 * s + 3) ≠ 1) && (spt A 20880 (nI s) (nI (c 0 + o)) (c 13) 0 && !spt A 20760 (nI s) (nI (c 0 + o)) (c 12) 0))
def Cun (v : jW) (c : Nat → Nat) (iw : Int32) (P : List Tr) : Prop := v.1 90 2 = nI P.length ∧ ∀ x, hit iw P 0 = some x → v.1 90 3 = nI x.1 ∧ v.1 90 4 = nI x.2.1 ∧ v.1 90 5 = nI (c 0 + x.2.2)
def X90 (v w : jW) : Prop := ∀ b, b ≠ 90 → v.1 b = w.1 b
theorem X90_t {u : jW} (h : X90 u v) (g : X90 v w) : X90 u w := fun b q => (h b q).trans (g b q)
theorem Eye_90 {u : jW} {sp : Nat} (h : Eye v A c sp) (g : X90 u v) : Eye u A c sp := by
  unfold Eye at *
  rw [g 91 (by omega), g 92 (by omega)]; exact h
theorem c_isClosed {sp s : Nat} (h : Eye v A c sp) (hs : s < c 1) (h1 : c 1 ≤ 10) : f_Search_isClosed (nI s) v = some (bz (cld A c s), v) := by
  rw [f_Search_isClosed, if_neg (nI_pos (by omega)), nI_rfl 10, if_pos (nI_lt (by omega) (by omega)), jal_c, jin_nI (by omega) (by omega), if_pos (show (true && jal []) = true from rfl), nI_clamp (by omega), h.1 s hs]
  cases cld A c s <;> rfl
theorem c_isClosed' {p : Nat} (hp : 10 ≤ p) (hp2 : p < 2 ^ 31) : f_Search_isClosed (nI p) v = some (1, v) := by
  rw [f_Search_isClosed, if_neg (nI_pos (by omega)), nI_rfl 10, if_neg (nI_nlt (by omega) (by omega))]
theorem c_isEyed {sp s o : Nat} (h : Eye v A c sp) (hs : s < c 1) (h1 : c 1 ≤ 10) (ho : o < sp) (hsp : sp ≤ 30) : f_Search_isEyed (nI s) (nI o) v = some (bz (decide (A (40 + 8 * s + 3) ≠ 1) && (spt A 20880 (nI s) (nI (c 0 + o)) (c 13) 0 && !spt A 20760 (nI s) (nI (c 0 + o)) (c 12) 0)), v) := by
  have e : nI s * 30 + nI o = nI (s * 30 + o) := by rw [show (30 : Int32) = nI 30 from rfl, nI_mul, nI_add]
  rw [f_Search_isEyed, e, if_neg (nI_pos (by omega)), nI_rfl 300, if_pos (nI_lt (by omega) (by omega)), jal_c, jin_nI (by omega) (by omega), if_pos (show (true && jal []) = true from rfl), nI_clamp (by omega), h.2 s o hs ho]
  cases (decide (A (40 + 8 * s + 3) ≠ 1) && (spt A 20880 (nI s) (nI (c 0 + o)) (c 13) 0 && !spt A 20760 (nI s) (nI (c 0 + o)) (c 12) 0)) <;> rfl
theorem c_meet {iw : Int32} {P : List Tr} {t p s o lg : Nat} {k26 : Int32 → Int32 → Int32 → Int32 → Int32 → Int32 → Int32 → jW → Option jW} {x3 x5 x7 : Int32} (hc : Cun v c iw P) (hP : P.length < 2 ^ 30) (e0 : v.1 3 0 = nI (c 0)) : ∃ v', f_Search_findDays_j59 k26 (nI t) x3 (nI s) x5 iw x7 (nI o) v = k26 (nI t) x3 (nI s) x5 iw x7 (nI (o + 1)) v' ∧ Cun v' c iw (P ++ [(t, s, o)]) ∧ X90 v' v := by
  obtain ⟨h1, h2⟩ := hc
  have hl : (P ++ [(t, s, o)]).length = P.length + 1 := by rw [List.length_append]; rfl
  have hh : hit iw (P ++ [(t, s, o)]) 0 = (match hit iw P 0 with | some x => some x | none => if nI P.length = iw then some (t, s, o) else none) := by
    rw [hit_app, Nat.zero_add]; rfl
  rw [f_Search_findDays_j59, h1]
  by_cases q : nI P.length = iw
  · have hn : hit iw P 0 = none := by
      cases e : hit iw P 0 with
      | none => rfl
      | some x =>
        obtain ⟨j, j1, j2, j3⟩ := hit_lt _ _ e
        have := (nI_eq (by omega) (by omega)).mp (j3.trans q.symm)
        omega
    rw [hn] at hh
    dsimp only at hh
    rw [if_pos q] at hh
    refine ⟨(jup (jup (jup (jup v.1 90 3 (nI t)) 90 4 (nI s)) 90 5 (nI (c 0 + o))) 90 2 (nI (P.length + 1)), v.2), ?_, ⟨?_, fun x hx => ?_⟩, fun b hb => ?_⟩
    · rw [if_pos q, jlw_e, jlw_e, jlw_e, jlw_e]
      dsimp only
      rw [jup_ne (by omega), jup_ne (by omega), e0, jup_k (by omega), jup_k (by omega), jup_k (by omega), h1, nI_add, ip_1, ip_1]
    · dsimp only
      rw [jup_eq, hl]
    · rw [hh] at hx
      cases hx
      dsimp only
      refine ⟨?_, ?_, ?_⟩
      · rw [jup_k (by omega), jup_k (by omega), jup_k (by omega), jup_eq]
      · rw [jup_k (by omega), jup_k (by omega), jup_eq]
      · rw [jup_k (by omega), jup_eq]
    · dsimp only
      rw [jup_fn hb, jup_fn hb, jup_fn hb, jup_fn hb]
  · rw [if_neg q] at hh
    refine ⟨(jup v.1 90 2 (nI (P.length + 1)), v.2), ?_, ⟨?_, fun x hx => ?_⟩, fun b hb => ?_⟩
    · rw [if_neg q, jlw_e, ip_1, ip_1]
    · dsimp only
      rw [jup_eq, hl]
    · rw [hh] at hx
      have hx' : hit iw P 0 = some x := by
        cases e : hit iw P 0 with
        | none => rw [e] at hx; cases hx
        | some y => rw [e] at hx; exact hx
      obtain ⟨g1, g2, g3⟩ := h2 x hx'
      dsimp only
      rw [jup_k (by omega), jup_k (by omega), jup_k (by omega)]
      exact ⟨g1, g2, g3⟩
    · dsimp only
      rw [jup_fn hb]
theorem c_days (H : RA w 3 A c K) {iw : Int32} {t p s sp : Nat} (hp : p < c 1) (hs : s < c 1) (hsp : sp ≤ 30) (hcp : cld A c p = false) (hcs : cld A c s = false) : ∀ (m o f : Nat) (v : jW) (P : List Tr), X90 v w → Eye v A c sp → Cun v c iw P → o + m = sp → m < f → P.length + m < 2 ^ 30 → ∃ v', f_Search_findDays_h26 f (nI t) (nI p) (nI s) (nI sp) iw (bz (!decide (A (240 + 12 * t + 1) < A 16))) (nI o) v = some v' ∧ X90 v' w ∧ Eye v' A c sp ∧ Cun v' c iw (P ++ dls A c t p s m o) := by
  have l1 := l_1 H
  intro m
  induction m with
  | zero =>
    intro o f v P hv hE hC ho hf hP
    obtain ⟨f, rfl⟩ : ∃ j, f = j + 1 := ⟨f - 1, by omega⟩
    refine ⟨v, ?_, hv, hE, ?_⟩
    · rw [f_Search_findDays_h26, if_neg (nI_nlt (by omega) (by omega))]
    · rw [dls, List.append_nil]; exact hC
  | succ m ih =>
    intro o f v P hv hE hC ho hf hP
    obtain ⟨f, rfl⟩ : ∃ j, f = j + 1 := ⟨f - 1, by omega⟩
    have e0 : v.1 3 0 = nI (c 0) := by rw [hv 3 (by omega)]; exact rs_0 H
    have i02 : ∀ s, s < c 1 → (decide (A (40 + 8 * s + 3) = 0)) = (decide (A (40 + 8 * s + 3) ≠ 1)) := fun s hs => by
      obtain ⟨n, n1, n2, n3⟩ := (p_Isite H s hs).2.2.2.1
      rw [n1]
      rcases (show n = 0 ∨ n = 1 by omega) with z | z <;> subst z <;> rfl
    have sk : uns A c t p s o = false → f_Search_findDays_h26 (f + 1) (nI t) (nI p) (nI s) (nI sp) iw (bz (!decide (A (240 + 12 * t + 1) < A 16))) (nI o) v = f_Search_findDays_h26 f (nI t) (nI p) (nI s) (nI sp) iw (bz (!decide (A (240 + 12 * t + 1) < A 16))) (nI (o + 1)) v → ∃ v', f_Search_findDays_h26 (f + 1) (nI t) (nI p) (nI s) (nI sp) iw (bz (!decide (A (240 + 12 * t + 1) < A 16))) (nI o) v = some v' ∧ X90 v' w ∧ Eye v' A c sp ∧ Cun v' c iw (P ++ dls A c t p s (m + 1) o) := fun q e => by
      rw [e, dls, q]
      exact ih (o + 1) f v P hv hE hC (by omega) (by omega) (by omega)
    have me : uns A c t p s o = true → f_Search_findDays_h26 (f + 1) (nI t) (nI p) (nI s) (nI sp) iw (bz (!decide (A (240 + 12 * t + 1) < A 16))) (nI o) v = f_Search_findDays_j59 (f_Search_findDays_h26 f) (nI t) (nI p) (nI s) (nI sp) iw (bz (!decide (A (240 + 12 * t + 1) < A 16))) (nI o) v → ∃ v', f_Search_findDays_h26 (f + 1) (nI t) (nI p) (nI s) (nI sp) iw (bz (!decide (A (240 + 12 * t + 1) < A 16))) (nI o) v = some v' ∧ X90 v' w ∧ Eye v' A c sp ∧ Cun v' c iw (P ++ dls A c t p s (m + 1) o) := fun q e => by
      obtain ⟨v1, k1, k2, k3⟩ := c_meet (p := 0) (lg := 0) (t := t) (s := s) (o := o) (k26 := f_Search_findDays_h26 f) (x3 := nI p) (x5 := nI sp) (x7 := bz (!decide (A (240 + 12 * t + 1) < A 16))) hC (by omega) e0
      rw [e, k1, dls, q, if_pos rfl, ← List.append_assoc]
      exact ih (o + 1) f v1 _ (X90_t k3 hv) (Eye_90 hE k3) k2 (by omega) (by omega) (by rw [List.length_append, List.length_singleton]; omega)
    have hu : uns A c t p s o = (!(!decide (A (240 + 12 * t + 1) < A 16) && (decide (A (40 + 8 * p + 3) ≠ 1) && (spt A 20880 (nI p) (nI (c 0 + o)) (c 13) 0 && !spt A 20760 (nI p) (nI (c 0 + o)) (c 12) 0))) && !(!decide (A (240 + 12 * t + 1) < A 16) && (decide (A (40 + 8 * s + 3) ≠ 1) && (spt A 20880 (nI s) (nI (c 0 + o)) (c 13) 0 && !spt A 20760 (nI s) (nI (c 0 + o)) (c 12) 0)))) := by
      unfold uns see
      unfold cld at hcp hcs
      rw [hcp, hcs, i02 p hp, i02 s hs, Bool.false_or, Bool.false_or]
    by_cases q1 : A (240 + 12 * t + 1) < A 16
    · refine me ?_ ?_
      · rw [hu, decide_eq_true q1]; rfl
      · rw [f_Search_findDays_h26, if_pos (nI_lt (by omega) (by omega)), decide_eq_true q1, if_pos (show bz (!true) = 0 from rfl)]
    · have b1 : bz (!decide (A (240 + 12 * t + 1) < A 16)) = 1 := by rw [decide_eq_false q1]; rfl
      rw [decide_eq_false q1] at hu
      have ep := c_isEyed hE hp l1 (show o < sp by omega) hsp
      have es := c_isEyed hE hs l1 (show o < sp by omega) hsp
      cases q2 : (decide (A (40 + 8 * p + 3) ≠ 1) && (spt A 20880 (nI p) (nI (c 0 + o)) (c 13) 0 && !spt A 20760 (nI p) (nI (c 0 + o)) (c 12) 0)) with
      | true =>
        rw [q2] at hu ep
        refine sk (by rw [hu]; rfl) ?_
        rw [f_Search_findDays_h26, if_pos (nI_lt (by omega) (by omega)), b1, if_neg one_ne, ep, ob]
        dsimp only
        rw [bz_t, if_neg one_ne, ip_1]
      | false =>
        rw [q2] at hu ep
        cases q3 : (decide (A (40 + 8 * s + 3) ≠ 1) && (spt A 20880 (nI s) (nI (c 0 + o)) (c 13) 0 && !spt A 20760 (nI s) (nI (c 0 + o)) (c 12) 0)) with
        | true =>
          rw [q3] at hu es
          refine sk (by rw [hu]; rfl) ?_
          rw [f_Search_findDays_h26, if_pos (nI_lt (by omega) (by omega)), b1, if_neg one_ne, ep, ob]
          dsimp only
          rw [bz_f, if_pos rfl, es, ob]
          dsimp only
          rw [bz_t, if_neg one_ne, ip_1]
        | false =>
          rw [q3] at hu es
          refine me (by rw [hu]; rfl) ?_
          rw [f_Search_findDays_h26, if_pos (nI_lt (by omega) (by omega)), b1, if_neg one_ne, ep, ob]
          dsimp only
          rw [bz_f, if_pos rfl, es, ob]
          dsimp only
          rw [bz_f, if_pos rfl]
theorem c_un84 (H : RA w 3 A c K) {iw la : Int32} {t p sp : Nat} {k34 : Int32 → Int32 → Int32 → Int32 → jW → Option (Int32 × jW)} (ht : t < c 3) (hp : p < c 1) (hsp : sp ≤ 30) (hcp : cld A c p = false) : ∀ (m s f : Nat) (v : jW) (P : List Tr), X90 v w → Eye v A c sp → Cun v c iw P → s + m = c 1 → m < f → P.length + 30 * m < 2 ^ 30 → ∃ v', f_Search_find_h84 k34 f la iw (nI sp) (nI t) (nI p) (nI s) v = k34 la iw (nI sp) (nI (t + 1)) v' ∧ X90 v' w ∧ Eye v' A c sp ∧ Cun v' c iw (P ++ sls' A c t p sp m s) := by
  have l1 := l_1 H
  intro m
  induction m with
  | zero =>
    intro s f v P hv hE hC hs hf hP
    obtain ⟨f, rfl⟩ : ∃ j, f = j + 1 := ⟨f - 1, by omega⟩
    have G : RA v 3 A c K := RA_fr H (fun b _ _ _ => hv b (by omega))
    refine ⟨v, ?_, hv, hE, ?_⟩
    · rw [f_Search_find_h84, n_si G, ob]
      dsimp only
      rw [if_neg (nI_nlt (by omega) (by omega)), ip_1]
    · rw [sls', List.append_nil]; exact hC
  | succ m ih =>
    intro s f v P hv hE hC hs hf hP
    obtain ⟨f, rfl⟩ : ∃ j, f = j + 1 := ⟨f - 1, by omega⟩
    have G : RA v 3 A c K := RA_fr H (fun b _ _ _ => hv b (by omega))
    have hs1 : s < c 1 := by omega
    have D := (p_Rway G).2 p s hp (by omega)
    have ea := r_at (p_Rway G).1 hp (j := s) (by omega)
    have ed := dst_e D
    have ea' : f_Rows_at 8 (nI p) (nI s) v = some (dst A (c 2) p s, v) := ea.trans (congrArg (fun z => some (z, v)) ed.symm)
    rw [f_Search_find_h84, n_si G, ob]
    dsimp only
    rw [if_pos (nI_lt (by omega) (by omega)), ea', ob, sls']
    dsimp only
    rw [ip_1]
    by_cases q1 : dst A (c 2) p s ≤ 0
    · rw [if_pos q1, if_pos q1, List.nil_append]
      exact ih (s + 1) f v P hv hE hC (by omega) (by omega) (by omega)
    rw [if_neg q1, if_neg q1, c_isClosed hE hs1 l1, ob]
    dsimp only
    cases q2 : cld A c s with
    | true =>
      rw [bz_t, if_neg one_ne, dls_cld (Or.inr q2), List.nil_append]
      exact ih (s + 1) f v P hv hE hC (by omega) (by omega) (by omega)
    | false =>
      rw [bz_f, if_pos rfl]
      have el : v.1 3 3 = A 16 := (p_Rscal G).2.2.2.1
      obtain ⟨v1, k1, k2, k3, k4⟩ := c_days (t := t) H hp hs1 hsp hcp q2 sp 0 jfu v P hv hE hC (by omega) (by unfold jfu; omega) (by omega)
      have efd : f_Search_findDays (nI t) (nI p) (nI s) (nI sp) iw v = some v1 := by
        rw [f_Search_findDays, a_th1 G ht, ob]
        dsimp only
        rw [el]
        by_cases z : A (240 + 12 * t + 1) < A 16
        · rw [decide_eq_true z] at k1
          rw [if_pos z, f_Search_findDays_j21]; exact k1
        · rw [decide_eq_false z] at k1
          rw [if_neg z, f_Search_findDays_j21]; exact k1
      rw [efd, ob, ← List.append_assoc]
      have := dls_len (A := A) (c := c) (t := t) (p := p) (s := s) sp 0
      exact ih (s + 1) f v1 _ k2 k3 k4 (by omega) (by omega) (by rw [List.length_append]; omega)
theorem c_un34 (H : RA w 3 A c K) {iw la : Int32} {sp : Nat} (hsp : sp ≤ 30) : ∀ (m t f : Nat) (v : jW) (P : List Tr), X90 v w → Eye v A c sp → Cun v c iw P → t + m = c 3 → m < f → P.length + 300 * m < 2 ^ 30 → ∃ v', f_Search_find_h34 f la iw (nI sp) (nI t) v = some (nI (P ++ tls A c la sp m t).length, v') ∧ X90 v' w ∧ Cun v' c iw (P ++ tls A c la sp m t) := by
  have l1 := l_1 H
  have l3 := l_3 H
  intro m
  induction m with
  | zero =>
    intro t f v P hv hE hC ht hf hP
    obtain ⟨f, rfl⟩ : ∃ j, f = j + 1 := ⟨f - 1, by omega⟩
    have G : RA v 3 A c K := RA_fr H (fun b _ _ _ => hv b (by omega))
    refine ⟨v, ?_, hv, ?_⟩
    · rw [f_Search_find_h34, n_th G, ob]
      dsimp only
      rw [if_neg (nI_nlt (by omega) (by omega)), tls, List.append_nil, hC.1]
    · rw [tls, List.append_nil]; exact hC
  | succ m ih =>
    intro t f v P hv hE hC ht hf hP
    obtain ⟨f, rfl⟩ : ∃ j, f = j + 1 := ⟨f - 1, by omega⟩
    have G : RA v 3 A c K := RA_fr H (fun b _ _ _ => hv b (by omega))
    have ht3 : t < c 3 := by omega
    obtain ⟨p, hp, hp2⟩ := mwh_c (d := nI (c 0)) G ht3
    rw [f_Search_find_h34, n_th G, ob]
    dsimp only
    rw [if_pos (nI_lt (by omega) (by omega)), rs_0 G, c_pl G ht3, ob]
    dsimp only
    rw [a_th3 G ht3, ob, tls, hp, nI_clamp (by omega)]
    dsimp only
    have nx : ∀ l, l = [] → ∃ v', f_Search_find_h34 f la iw (nI sp) (nI (t + 1)) v = some (nI (P ++ (l ++ tls A c la sp m (t + 1))).length, v') ∧ X90 v' w ∧ Cun v' c iw (P ++ (l ++ tls A c la sp m (t + 1))) := fun l hl => by
      rw [hl, List.nil_append]
      exact ih (t + 1) f v P hv hE hC (by omega) (by omega) (by omega)
    by_cases q1 : A (240 + 12 * t + 3) = la
    rotate_left
    · rw [if_neg q1, ip_1]
      exact nx _ (if_neg (fun z => q1 z.1))
    rw [if_pos q1]
    by_cases q2 : p < c 1
    rotate_left
    · rw [c_isClosed' (by omega) (by omega), ob, if_neg one_ne, ip_1]
      exact nx _ (if_neg (fun z => nI_nlt (a := p) (b := 100) (by omega) (by omega) z.2))
    rw [if_pos ⟨q1, nI_lt (b := 100) (by omega) (by omega)⟩, c_isClosed hE q2 l1, ob]
    dsimp only
    cases q3 : cld A c p with
    | true =>
      rw [bz_t, if_neg one_ne, ip_1]
      exact nx _ (sls_cld q3 _ _)
    | false =>
      rw [bz_f, if_pos rfl]
      obtain ⟨v1, k1, k2, k3, k4⟩ := c_un84 (la := la) (k34 := f_Search_find_h34 f) H ht3 q2 hsp q3 (c 1) 0 jfu v P hv hE hC (by omega) (by unfold jfu; omega) (by omega)
      have k1' : f_Search_find_h84 (f_Search_find_h34 f) jfu la iw (nI sp) (nI t) (nI p) 0 v = _ := k1
      have := sls_len (A := A) (c := c) (t := t) (p := p) hsp (c 1) 0
      rw [k1', ← List.append_assoc]
      exact ih (t + 1) f v1 _ k2 k3 k4 (by omega) (by omega) (by rw [List.length_append]; omega)
end UN


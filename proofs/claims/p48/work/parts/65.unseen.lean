/-! LAYER B: what would not be seen: how it begins; the reference -/
section UB
variable {w v z0 : jW} {A : Nat → Int32} {c ci : Nat → Nat} {K : Nat}
/-- one of the first n pairs -/
def spp (A : Nat → Int32) (base : Nat) (x y : Int32) : Nat → Bool
  | 0 => false
  | n + 1 => spp A base x y n || (decide (A (base + 2 * n) = x) && decide (A (base + 2 * n + 1) = y))
theorem spp_spt {base : Nat} {x y : Int32} : ∀ m k, (spp A base x y k || spt A base x y m k) = spp A base x y (k + m) := by
  intro m
  induction m with
  | zero => intro k; rw [spt, Bool.or_false]; rfl
  | succ m ih =>
    intro k
    rw [spt, show k + (m + 1) = k + 1 + m by omega, ← ih (k + 1), spp, Bool.or_assoc]
theorem spt_spp {base : Nat} {x y : Int32} {n : Nat} : spt A base x y n 0 = spp A base x y n := by
  have := spp_spt (A := A) (base := base) (x := x) (y := y) n 0
  rw [spp, Bool.false_or, Nat.zero_add] at this
  exact this
def X9x (v w : jW) : Prop := ∀ b, b ≠ 91 → b ≠ 92 → v.1 b = w.1 b
theorem c_mkClosed (H : RA w 3 A c K) : ∀ (m k f : Nat) (v : jW), (∀ b, b ≠ 91 → v.1 b = w.1 b) → (∀ s, s < k → v.1 91 s = bz (cld A c s)) → k + m = c 1 → m < f → ∃ v', f_Search_markClosed_h2 f (nI k) v = some v' ∧ (∀ b, b ≠ 91 → v'.1 b = w.1 b) ∧ ∀ s, s < c 1 → v'.1 91 s = bz (cld A c s) := by
  have l1 := l_1 H
  intro m
  induction m with
  | zero =>
    intro k f v hv hs hk hf
    obtain ⟨f, rfl⟩ : ∃ j, f = j + 1 := ⟨f - 1, by omega⟩
    have G : RA v 3 A c K := RA_fr H (fun b _ _ _ => hv b (by omega))
    refine ⟨v, ?_, hv, fun s h => hs s (by omega)⟩
    rw [f_Search_markClosed_h2, n_si G, ob]
    dsimp only
    rw [if_neg (nI_nlt (by omega) (by omega))]
  | succ m ih =>
    intro k f v hv hs hk hf
    obtain ⟨f, rfl⟩ : ∃ j, f = j + 1 := ⟨f - 1, by omega⟩
    have G : RA v 3 A c K := RA_fr H (fun b _ _ _ => hv b (by omega))
    have st : ∀ x : Int32, x = bz (cld A c k) → ∃ v', f_Search_markClosed_h2 f (nI (k + 1)) (jup v.1 91 k x, v.2) = some v' ∧ (∀ b, b ≠ 91 → v'.1 b = w.1 b) ∧ ∀ s, s < c 1 → v'.1 91 s = bz (cld A c s) := fun x hx => by
      refine ih (k + 1) f _ (fun b hb => (jup_fn hb).trans (hv b hb)) (fun s h => ?_) (by omega) (by omega)
      show jup v.1 91 k x 91 s = _
      by_cases q : s = k
      · rw [q, jup_eq, hx]
      · rw [jup_k q]; exact hs s (by omega)
    rw [f_Search_markClosed_h2, n_si G, ob]
    dsimp only
    rw [if_pos (nI_lt (by omega) (by omega)), nI_rfl 10, if_pos (nI_lt (by omega) (by omega)), a_si2 G (by omega), ob]
    dsimp only
    simp (disch := omega) only [jal_c, jal_n, jin_nI, Bool.and_true, nI_clamp, ip_1, ↓jlw_e, show jbo 1 = true by decide, show jbo 0 = true by decide, ↓reduceIte]
    by_cases q1 : A (40 + 8 * k + 2) = 1
    · rw [if_pos q1]
      exact st 1 (by unfold cld; rw [decide_eq_true q1]; rfl)
    · rw [if_neg q1, c_sealed G, ob]
      dsimp only
      cases q2 : isl A c (nI k) with
      | true =>
        rw [bz_t, if_neg one_ne]
        exact st 1 (by unfold cld; rw [decide_eq_false q1, q2]; rfl)
      | false =>
        rw [bz_f, if_pos rfl]
        exact st 0 (by unfold cld; rw [decide_eq_false q1, q2]; rfl)
def Ey2 (v : jW) (A : Nat → Int32) (c : Nat → Nat) (sp k : Nat) : Prop := ∀ s o, s < c 1 → o < sp → v.1 92 (s * 30 + o) = bz (decide (A (40 + 8 * s + 3) ≠ 1) && (spp A 20880 (nI s) (nI (c 0 + o)) k && !spt A 20760 (nI s) (nI (c 0 + o)) (c 12) 0))
theorem c_mkEyes26 (H : RA w 3 A c K) {sp : Nat} (hsp : sp ≤ 30) : ∀ (m k f : Nat) (v : jW), (∀ b, b ≠ 92 → v.1 b = w.1 b) → Ey2 v A c sp k → k + m = c 13 → m < f → ∃ v', f_Search_markEyes_h26 f (nI sp) (nI k) v = some v' ∧ (∀ b, b ≠ 92 → v'.1 b = w.1 b) ∧ Ey2 v' A c sp (c 13) := by
  have l0 := l_0 H
  have l1 := l_1 H
  have l12 := l_12 H
  have l13 := l_13 H
  intro m
  induction m with
  | zero =>
    intro k f v hv hs hk hf
    obtain ⟨f, rfl⟩ : ∃ j, f = j + 1 := ⟨f - 1, by omega⟩
    have G : RA v 3 A c K := RA_fr H (fun b _ _ _ => hv b (by omega))
    have ek : k = c 13 := by omega
    subst ek
    refine ⟨v, ?_, hv, hs⟩
    rw [f_Search_markEyes_h26, n_wa G, ob]
    dsimp only
    rw [if_neg (nI_nlt (by omega) (by omega))]
  | succ m ih =>
    intro k f v hv hs hk hf
    obtain ⟨f, rfl⟩ : ∃ j, f = j + 1 := ⟨f - 1, by omega⟩
    have G : RA v 3 A c K := RA_fr H (fun b _ _ _ => hv b (by omega))
    obtain ⟨on, wh, w1, w2, w3, w4⟩ := p_Iwat H k (by omega)
    have e0 : v.1 3 0 = nI (c 0) := rs_0 G
    -- where nothing is marked
    have st : (∀ s o, s < c 1 → o < sp → nI on = nI s → nI wh = nI (c 0 + o) → (decide (A (40 + 8 * s + 3) ≠ 1) && !spt A 20760 (nI s) (nI (c 0 + o)) (c 12) 0) = false) → ∃ v', f_Search_markEyes_h26 f (nI sp) (nI (k + 1)) v = some v' ∧ (∀ b, b ≠ 92 → v'.1 b = w.1 b) ∧ Ey2 v' A c sp (c 13) := fun q => by
      refine ih (k + 1) f v hv (fun s o h1 h2 => ?_) (by omega) (by omega)
      rw [hs s o h1 h2, spp, w1, w2]
      by_cases z : nI on = nI s ∧ nI wh = nI (c 0 + o)
      · have := q s o h1 h2 z.1 z.2
        cases e1 : decide (A (40 + 8 * s + 3) ≠ 1) with
        | false => rw [Bool.false_and, Bool.false_and]
        | true =>
          rw [e1, Bool.true_and] at this
          rw [this]; simp
      · have e : (decide (nI on = nI s) && decide (nI wh = nI (c 0 + o))) = false := by
          cases e1 : decide (nI on = nI s) with
          | false => rfl
          | true =>
            rw [Bool.true_and]
            exact decide_eq_false (fun y => z ⟨of_decide_eq_true e1, y⟩)
        rw [e, Bool.or_false]
    have j1 : ∀ x : Int32, (∀ s o, s < c 1 → o < sp → nI on = nI s → nI wh = nI (c 0 + o) → (decide (A (40 + 8 * s + 3) ≠ 1) && !spt A 20760 (nI s) (nI (c 0 + o)) (c 12) 0) = false) → ∃ v', f_Search_markEyes_j107 (f_Search_markEyes_h26 f) (nI sp) (nI k) (nI wh) x 1 v = some v' ∧ (∀ b, b ≠ 92 → v'.1 b = w.1 b) ∧ Ey2 v' A c sp (c 13) := fun x q => by
      rw [f_Search_markEyes_j107, if_neg one_ne, ip_1]
      have := st q
      split
      · exact this
      · split <;> exact this
    rw [f_Search_markEyes_h26, n_wa G, ob]
    dsimp only
    rw [if_pos (nI_lt (by omega) (by omega)), a_wa0 G (by omega), ob]
    dsimp only
    rw [a_wa1 G (by omega), ob]
    dsimp only
    rw [w1, w2, a_si3 G w3, ob, e0]
    dsimp only
    by_cases q1 : A (40 + 8 * on + 3) = 1
    · rw [if_pos q1, f_Search_markEyes_j102]
      refine j1 _ (fun s o h1 h2 h3 h4 => ?_)
      have := (nI_eq (by omega) (by omega)).mp h3
      subst this
      rw [decide_eq_false (fun z => z q1)]; rfl
    · rw [if_neg q1, c_spot (p_Rcld G) (h_12 G) l12, ob]
      dsimp only
      cases q2 : spt A 20760 (nI on) (nI wh) (c 12) 0 with
      | true =>
        rw [bz_t, if_neg one_ne, f_Search_markEyes_j102]
        refine j1 _ (fun s o h1 h2 h3 h4 => ?_)
        rw [← h3, ← h4, q2, Bool.not_true, Bool.and_false]
      | false =>
        rw [bz_f, if_pos rfl, f_Search_markEyes_j107, e0]
        by_cases q3 : nI wh < nI (c 0)
        · rw [if_pos q3, ip_1]
          have q3' := (nI_ltI (by omega) (by omega)).mp q3
          refine st (fun s o h1 h2 h3 h4 => ?_)
          have := (nI_eq (by omega) (by omega)).mp h4
          omega
        · have q3' : c 0 ≤ wh := by
            have : ¬ wh < c 0 := fun z => q3 (nI_lt z (by omega))
            omega
          rw [if_neg q3, nI_add]
          by_cases q4 : wh < c 0 + sp
          rotate_left
          · rw [if_neg (nI_nlt (by omega) (by omega)), ip_1]
            refine st (fun s o h1 h2 h3 h4 => ?_)
            have := (nI_eq (by omega) (by omega)).mp h4
            omega
          have ei : nI on * 30 + nI wh - nI (c 0) = nI (on * 30 + (wh - c 0)) := by
            rw [show (30 : Int32) = nI 30 from rfl, nI_mul, nI_add, nI_sub (by omega), show on * 30 + wh - c 0 = on * 30 + (wh - c 0) by omega]
          rw [if_pos (nI_lt q4 (by omega)), if_pos rfl, ei, if_neg (nI_pos (by omega)), nI_rfl 300, if_pos (nI_lt (by omega) (by omega)), jal_c, jal_c, jin_nI (by omega) (by omega), show jbo 1 = true by decide, if_pos (show (true && (true && jal [])) = true from rfl), jlw_e, nI_clamp (by omega), ip_1]
          refine ih (k + 1) f _ (fun b hb => (jup_fn hb).trans (hv b hb)) (fun s o h1 h2 => ?_) (by omega) (by omega)
          show jup v.1 92 (on * 30 + (wh - c 0)) 1 92 (s * 30 + o) = _
          rw [jup_ap, spp, w1, w2]
          by_cases z : s = on ∧ c 0 + o = wh
          · obtain ⟨z1, z2⟩ := z
            subst z1; subst z2
            rw [if_pos ⟨rfl, by omega⟩, q2, decide_eq_true (show A (40 + 8 * s + 3) ≠ 1 from q1), decide_eq_true (show nI s = nI s from rfl), decide_eq_true (show nI (c 0 + o) = nI (c 0 + o) from rfl), Bool.and_true, Bool.or_true]
            rfl
          · have e : (decide (nI on = nI s) && decide (nI wh = nI (c 0 + o))) = false := by
              cases e1 : decide (nI on = nI s) with
              | false => rfl
              | true =>
                rw [Bool.true_and]
                refine decide_eq_false (fun y => z ⟨((nI_eq (by omega) (by omega)).mp (of_decide_eq_true e1)).symm, ((nI_eq (by omega) (by omega)).mp y).symm⟩)
            rw [if_neg (fun y => z (by have := y.2; omega)), hs s o h1 h2, e, Bool.or_false]
theorem c_mkEyes2 (H : RA w 3 A c K) {sp : Nat} (hsp : sp ≤ 30) : ∀ (m k f : Nat) (v : jW), (∀ b, b ≠ 92 → v.1 b = w.1 b) → (∀ j, j < k → v.1 92 j = 0) → k + m = 300 → m < f → ∃ v', f_Search_markEyes_h2 f (nI sp) (nI k) v = some v' ∧ (∀ b, b ≠ 92 → v'.1 b = w.1 b) ∧ Ey2 v' A c sp (c 13) := by
  have l1 := l_1 H
  intro m
  induction m with
  | zero =>
    intro k f v hv hs hk hf
    obtain ⟨f, rfl⟩ : ∃ j, f = j + 1 := ⟨f - 1, by omega⟩
    rw [f_Search_markEyes_h2, nI_rfl 300, if_neg (nI_nlt (by omega) (by omega))]
    refine c_mkEyes26 H hsp (c 13) 0 jfu v hv (fun s o h1 h2 => ?_) (by omega) (by have := l_13 H; unfold jfu; omega)
    rw [hs _ (by omega), spp, Bool.false_and, Bool.and_false]; rfl
  | succ m ih =>
    intro k f v hv hs hk hf
    obtain ⟨f, rfl⟩ : ∃ j, f = j + 1 := ⟨f - 1, by omega⟩
    rw [f_Search_markEyes_h2, nI_rfl 300, if_pos (nI_lt (by omega) (by omega)), jal_c, jal_c, jin_nI (by omega) (by omega), show jbo 0 = true by decide, if_pos (show (true && (true && jal [])) = true from rfl), jlw_e, nI_clamp (by omega), ip_1]
    refine ih (k + 1) f _ (fun b hb => (jup_fn hb).trans (hv b hb)) (fun j hj => ?_) (by omega) (by omega)
    show jup v.1 92 k 0 92 j = 0
    by_cases q : j = k
    · rw [q, jup_eq]
    · rw [jup_k q]; exact hs j (by omega)
def spn (c : Nat → Nat) (n : Nat) : Nat := if 2000 - c 0 < n then 2000 - c 0 else n
theorem c_find (H : RA w 3 A c K) {iw la : Int32} {n : Nat} (hn : n ≤ 30) : ∃ v, f_Search_find la (nI n) iw w = some (nI (tls A c la (spn c n) (c 3) 0).length, v) ∧ Sq v w ∧ ∀ x, hit iw (tls A c la (spn c n) (c 3) 0) 0 = some x → v.1 90 3 = nI x.1 ∧ v.1 90 4 = nI x.2.1 ∧ v.1 90 5 = nI (c 0 + x.2.2) := by
  have l0 := l_0 H
  have l1 := l_1 H
  have l3 := l_3 H
  have hsp : spn c n ≤ 30 := by unfold spn; split <;> omega
  obtain ⟨u, hu⟩ : ∃ u : jW, u = (jup w.1 90 2 0, w.2) := ⟨_, rfl⟩
  have fu : ∀ b, b ≠ 90 → u.1 b = w.1 b := fun b hb => by rw [hu]; dsimp only; rw [jup_fn hb]
  have Gu : RA u 3 A c K := RA_fr H (fun b _ _ _ => fu b (by omega))
  obtain ⟨u1, a1, a2, a3⟩ := c_mkClosed Gu (c 1) 0 jfu u (fun _ _ => rfl) (fun s hs => absurd hs (Nat.not_lt_zero s)) (by omega) (by unfold jfu; omega)
  have G1 : RA u1 3 A c K := RA_fr Gu (fun b _ _ _ => a2 b (by omega))
  obtain ⟨u2, b1, b2, b3⟩ := c_mkEyes2 G1 hsp 300 0 jfu u1 (fun _ _ => rfl) (fun s hs => absurd hs (Nat.not_lt_zero s)) (by omega) (by unfold jfu; omega)
  have G2 : RA u2 3 A c K := RA_fr G1 (fun b _ _ _ => b2 b (by omega))
  have esp : (if (2000 - nI (c 0) : Int32) < nI n then (2000 - nI (c 0) : Int32) else nI n) = nI (spn c n) := by
    rw [show (2000 : Int32) = nI 2000 from rfl, nI_sub (by omega)]
    unfold spn
    by_cases z : 2000 - c 0 < n
    · rw [if_pos z, if_pos (nI_lt z (by omega))]
    · rw [if_neg z, if_neg (nI_nlt (by omega) (by omega))]
  have E2 : Eye u2 A c (spn c n) := ⟨fun s hs => by rw [b2 91 (by omega)]; exact a3 s hs, fun s o hs ho => by rw [b3 s o hs ho, ← spt_spp (base := 20880)]⟩
  have C2 : Cun u2 c iw [] := ⟨by rw [b2 90 (by omega), a2 90 (by omega), hu]; dsimp only; rw [jup_eq]; rfl, fun x hx => by cases hx⟩
  obtain ⟨v, d1, d2, d3⟩ := c_un34 (la := la) G2 hsp (c 3) 0 jfu u2 [] (fun _ _ => rfl) E2 C2 (by omega) (by unfold jfu; omega) (by rw [List.length_nil]; omega)
  rw [List.nil_append] at d1 d3
  have u0 : u.1 3 0 = nI (c 0) := rs_0 Gu
  refine ⟨v, ?_, ⟨fun b q => ?_, fun j _ => ?_⟩, d3.2⟩
  · rw [f_Search_find, jlw_e, ← hu, u0, esp, f_Search_markClosed]
    have a1' : f_Search_markClosed_h2 jfu 0 u = some u1 := a1
    have b1' : f_Search_markEyes_h2 jfu (nI (spn c n)) 0 u1 = some u2 := b1
    rw [a1', ob, f_Search_markEyes, b1', ob]
    exact d1
  · have b90 : b ≠ 90 := fun z => by rw [z] at q; exact absurd q (by decide)
    have b91 : b ≠ 91 := fun z => by rw [z] at q; exact absurd q (by decide)
    have b92 : b ≠ 92 := fun z => by rw [z] at q; exact absurd q (by decide)
    rw [d2 b b90, b2 b b92, a2 b b91, fu b b90]
  · rw [d2 93 (by omega), b2 93 (by omega), a2 93 (by omega), fu 93 (by omega)]
/-! the reference -/
def Trk (v : jW) (c : Nat → Nat) (x : Tr) : Prop := v.1 93 23 = nI x.1 ∧ v.1 93 24 = nI x.2.1 ∧ v.1 93 25 = nI (c 0 + x.2.2)
theorem tls_len {la : Int32} {sp : Nat} (hsp : sp ≤ 30) (h1 : c 1 ≤ 10) : ∀ m t, (tls A c la sp m t).length ≤ 300 * m := by
  intro m
  induction m with
  | zero => intro t; exact Nat.le_refl _
  | succ m ih =>
    intro t
    rw [tls, List.length_append]
    have := ih (t + 1)
    have := sls_len (A := A) (c := c) (t := t) (p := (mwh A (c 4) t (nI (c 0))).toNatClampNeg) hsp (c 1) 0
    split
    · omega
    · rw [List.length_nil]; omega
theorem hit_m1 : ∀ (l : List Tr) (n : Nat), n + l.length < 2 ^ 30 → hit (-1) l n = none := by
  intro l
  induction l with
  | nil => intro n _; rfl
  | cons x l ih =>
    intro n h
    rw [List.length_cons] at h
    rw [hit, if_neg (nI_ne_m1 (by omega)), ih (n + 1) (by omega)]
theorem spn_le {n : Nat} (hn : n ≤ 30) : spn c n ≤ 30 := by unfold spn; split <;> omega
end UB


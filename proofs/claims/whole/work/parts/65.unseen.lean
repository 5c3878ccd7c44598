/-! LAYER B: what would not be seen: how it begins; the reference -/
section UB
variable {w v z0 : jW} {A : Nat → Int32} {c ci : Nat → Nat} {K : Nat}
/-- one of the first n pairs -/
def spp (A : Nat → Int32) (base : Nat) (x y : Int32) : Nat → Bool
  | 0 => false
  | n + 1 => spp A base x y n || (decide (A (base + 2 * n) = x) && decide (A (base + 2 * n + 1) = y))
theorem spp_spt {base : Nat} {x y : Int32} : ∀ m k, (spp A base x y k || spt A base x y m k) = spp A base x y (k + m) := by
  intro m
  induction m with
  | zero => intro k; rw [spt, Bool.or_false]; rfl
  | succ m ih =>
    intro k
    rw [spt, show k + (m + 1) = k + 1 + m by omega, ← ih (k + 1), spp, Bool.or_assoc]
theorem spt_spp {base : Nat} {x y : Int32} {n : Nat} : spt A base x y n 0 = spp A base x y n := by
  have := spp_spt (A := A) (base := base) (x := x) (y := y) n 0
  rw [spp, Bool.false_or, Nat.zero_add] at this
  exact this
def X9x (v w : jW) : Prop := ∀ b, b ≠ 91 → b ≠ 92 → v.1 b = w.1 b
theorem c_mkClosed (H : RA w 3 A c K) : ∀ (m k f : Nat) (v : jW), (∀ b, b ≠ 91 → v.1 b = w.1 b) → (∀ s, s < k → v.1 91 s = bz (cld A c s)) → k + m = c 1 → m < f → ∃ v', f_Search_markClosed_h2 f (nI k) v = some v' ∧ (∀ b, b ≠ 91 → v'.1 b = w.1 b) ∧ ∀ s, s < c 1 → v'.1 91 s = bz (cld A c s) := by
  have l1 := l_1 H
  intro m
  induction m with
  | zero =>
    intro k f v hv hs hk hf
    obtain ⟨f, rfl⟩ : ∃ j, f = j + 1 := ⟨f - 1, by omega⟩
    have G : RA v 3 A c K := RA_fr H (fun b _ _ _ => hv b (by omega))
    refine ⟨v, ?_, hv, fun s h => hs s (by omega)⟩
    rw [f_Search_markClosed_h2, n_si G, ob]
    dsimp only
    rw [if_neg (nI_nlt (by omega) (by omega))]
  | succ m ih =>
    intro k f v hv hs hk hf
    obtain ⟨f, rfl⟩ : ∃ j, f = j + 1 := ⟨f - 1, by omega⟩
    have G : RA v 3 A c K := RA_fr H (fun b _ _ _ => hv b (by omega))
    have st : ∀ x : Int32, x = bz (cld A c k) → ∃ v', f_Search_markClosed_h2 f (nI (k + 1)) (jup v.1 91 k x, v.2) = some v' ∧ (∀ b, b ≠ 91 → v'.1 b = w.1 b) ∧ ∀ s, s < c 1 → v'.1 91 s = bz (cld A c s) := fun x hx => by
      refine ih (k + 1) f _ (fun b hb => (jup_fn hb).trans (hv b hb)) (fun s h => ?_) (by omega) (by omega)
      show jup v.1 91 k x 91 s = _
      by_cases q : s = k
      · rw [q, jup_eq, hx]
      · rw [jup_k q]; exact hs s (by omega)
    rw [f_Search_markClosed_h2, n_si G, ob]
    dsimp only
    rw [if_pos (nI_lt (by omega) (by omega)), nI_rfl 10, if_pos (nI_lt (by omega) (by omega)), a_si2 G (by omega), ob]
    dsimp only
    simp (disch := omega) only [jal_c, jal_n, jin_nI, Bool.and_true, nI_clamp, ip_1, ↓jlw_e, show jbo 1 = true by decide, show jbo 0 = true by decide, ↓reduceIte]
    by_cases q1 : A (40 + 8 * k + 2) = 1
    · rw [if_pos q1]
      exact st 1 (by unfold cld; rw [decide_eq_true q1]; rfl)
    · rw [if_neg q1, c_sealed G, ob]
      dsimp only
      cases q2 : isl A c (nI k) with
      | true =>
        rw [bz_t, if_neg one_ne]
        exact st 1 (by unfold cld; rw [decide_eq_false q1, q2]; rfl)
      | false =>
        rw [bz_f, if_pos rfl]
        exact st 0 (by unfold cld; rw [decide_eq_false q1, q2]; rfl)
def Ey2 (v : jW) (A : Nat → Int32) (c : Nat → Nat) (sp k : Nat) : Prop := ∀ s o, s < c 1 → o < sp → v.1 92 (s * 30 + o) = bz (decide (A (40 + 8 * s + 3) ≠ 1) && (spp A 20880 (nI s) (nI (c 0 + o)) k && !spt A 20760 (nI s) (nI (c 0 + o)) (c 12) 0))
theorem c_mkEyes26 (H : RA w 3 A c K) {sp : Nat} (hsp : sp ≤ 30) : ∀ (m k f : Nat) (v : jW), (∀ b, b ≠ 92 → v.1 b = w.1 b) → Ey2 v A c sp k → k + m = c 13 → m < f → ∃ v', f_Search_markEyes_h26 f (nI sp) (nI k) v = some v' ∧ (∀ b, b ≠ 92 → v'.1 b = w.1 b) ∧ Ey2 v' A c sp (c 13) := by
  have l0 := l_0 H
  have l1 := l_1 H
  have l12 := l_12 H
  have l13 := l_13 H
  intro m
  induction m with
  | zero =>
    intro k f v hv hs hk hf
    obtain ⟨f, rfl⟩ : ∃ j, f = j + 1 := ⟨f - 1, by omega⟩
    have G : RA v 3 A c K := RA_fr H (fun b _ _ _ => hv b (by omega))
    have ek : k = c 13 := by omega
    subst ek
    refine ⟨v, ?_, hv, hs⟩
    rw [f_Search_markEyes_h26, n_wa G, ob]
    dsimp only
    rw [if_neg (nI_nlt (by omega) (by omega))]
  | succ m ih =>
    intro k f v hv hs hk hf
    obtain ⟨f, rfl⟩ : ∃ j, f = j + 1 := ⟨f - 1, by omega⟩
    have G : RA v 3 A c K := RA_fr H (fun b _ _ _ => hv b (by omega))
    obtain ⟨on, wh, w1, w2, w3, w4⟩ := p_Iwat H k (by omega)
    have e0 : v.1 3 0 = nI (c 0) := rs_0 G
    -- where nothing is marked
    have st : (∀ s o, s < c 1 → o < sp → nI on = nI s → nI wh = nI (c 0 + o) → (decide (A (40 + 8 * s + 3) ≠ 1) && !spt A 20760 (nI s) (nI (c 0 + o)) (c 12) 0) = false) → ∃ v', f_Search_markEyes_h26 f (nI sp) (nI (k + 1)) v = some v' ∧ (∀ b, b ≠ 92 → v'.1 b = w.1 b) ∧ Ey2 v' A c sp (c 13) := fun q => by
      refine ih (k + 1) f v hv (fun s o h1 h2 => ?_) (by omega) (by omega)
      rw [hs s o h1 h2, spp, w1, w2]
      by_cases z : nI on = nI s ∧ nI wh = nI (c 0 + o)
      · have := q s o h1 h2 z.1 z.2
        cases e1 : decide (A (40 + 8 * s + 3) ≠ 1) with
        | false => rw [Bool.false_and, Bool.false_and]
        | true =>
          rw [e1, Bool.true_and] at this
          rw [this]; simp
      · have e : (decide (nI on = nI s) && decide (nI wh = nI (c 0 + o))) = false := by
          cases e1 : decide (nI on = nI s) with
          | false => rfl
          | true =>
            rw [Bool.true_and]
            exact decide_eq_false (fun y => z ⟨of_decide_eq_true e1, y⟩)
        rw [e, Bool.or_false]
    have j1 : ∀ x : Int32, (∀ s o, s < c 1 → o < sp → nI on = nI s → nI wh = nI (c 0 + o) → (decide (A (40 + 8 * s + 3) ≠ 1) && !spt A 20760 (nI s) (nI (c 0 + o)) (c 12) 0) = false) → ∃ v', f_Search_markEyes_j107 (f_Search_markEyes_h26 f) (nI sp) (nI k) (nI wh) x 1 v = some v' ∧ (∀ b, b ≠ 92 → v'.1 b = w.1 b) ∧ Ey2 v' A c sp (c 13) := fun x q => by
      rw [f_Search_markEyes_j107, if_neg one_ne, ip_1]
      have := st q
      split
      · exact this
      · split <;> exact this
    rw [f_Search_markEyes_h26, n_wa G, ob]
    dsimp only
    rw [if_pos (nI_lt (by omega) (by omega)), a_wa0 G (by omega), ob]
    dsimp only
    rw [a_wa1 G (by omega), ob]
    dsimp only
    rw [w1, w2, a_si3 G w3, ob, e0]
    dsimp only
    by_cases q1 : A (40 + 8 * on + 3) = 1
    · rw [if_pos q1, f_Search_markEyes_j102]
      refine j1 _ (fun s o h1 h2 h3 h4 => ?_)
      have := (nI_eq (by omega) (by omega)).mp h3
      subst this
      rw [decide_eq_false (fun z => z q1)]; rfl
    · rw [if_neg q1, c_spot (p_Rcld G) (h_12 G) l12, ob]
      dsimp only
      cases q2 : spt A 20760 (nI on) (nI wh) (c 12) 0 with
      | true =>
        rw [bz_t, if_neg one_ne, f_Search_markEyes_j102]
        refine j1 _ (fun s o h1 h2 h3 h4 => ?_)
        rw [← h3, ← h4, q2, Bool.not_true, Bool.and_false]
      | false =>
        rw [bz_f, if_pos rfl, f_Search_markEyes_j107, e0]
        by_cases q3 : nI wh < nI (c 0)
        · rw [if_pos q3, ip_1]
          have q3' := (nI_ltI (by omega) (by omega)).mp q3
          refine st (fun s o h1 h2 h3 h4 => ?_)
          have := (nI_eq (by omega) (by omega)).mp h4
          omega
        · have q3' : c 0 ≤ wh := by
            have : ¬ wh < c 0 := fun z => q3 (nI_lt z (by omega))
            omega
          rw [if_neg q3, nI_add]
          by_cases q4 : wh < c 0 + sp
          rotate_left
          · rw [if_neg (nI_nlt (by omega) (by omega)), ip_1]
            refine st (fun s o h1 h2 h3 h4 => ?_)
            have := (nI_eq (by omega) (by omega)).mp h4
            omega
          have ei : nI on * 30 + nI wh - nI (c 0) = nI (on * 30 + (wh - c 0)) := by
            rw [show (30 : Int32) = nI 30 from rfl, nI_mul, nI_add, nI_sub (by omega), show on * 30 + wh - c 0 = on * 30 + (wh - c 0) by omega]
          rw [if_pos (nI_lt q4 (by omega)), if_pos rfl, ei, if_neg (nI_pos (by omega)), nI_rfl 300, if_pos (nI_lt (by omega) (by omega)), jal_c, jal_c, jin_nI (by omega) (by omega), show jbo 1 = true by decide, if_pos (show (true && (true && jal [])) = true from rfl), jlw_e, nI_clamp (by omega), ip_1]
          refine ih (k + 1) f _ (fun b hb => (jup_fn hb).trans (hv b hb)) (fun s o h1 h2 => ?_) (by omega) (by omega)
          show jup v.1 92 (on * 30 + (wh - c 0)) 1 92 (s * 30 + o) = _
          rw [jup_ap, spp, w1, w2]
          by_cases z : s = on ∧ c 0 + o = wh
          · obtain ⟨z1, z2⟩ := z
            subst z1; subst z2
            rw [if_pos ⟨rfl, by omega⟩, q2, decide_eq_true (show A (40 + 8 * s + 3) ≠ 1 from q1), decide_eq_true (show nI s = nI s from rfl), decide_eq_true (show nI (c 0 + o) = nI (c 0 + o) from rfl), Bool.and_true, Bool.or_true]
            rfl
          · have e : (decide (nI on = nI s) && decide (nI wh = nI (c 0 + o))) = false := by
              cases e1 : decide (nI on = nI s) with
              | false => rfl
              | true =>
                rw [Bool.true_and]
                refine decide_eq_false (fun y => z ⟨((nI_eq (by omega) (by omega)).mp (of_decide_eq_true e1)).symm, ((nI_eq (by omega) (by omega)).mp y).symm⟩)
            rw [if_neg (fun y => z (by have := y.2; omega)), hs s o h1 h2, e, Bool.or_false]
theorem c_mkEyes2 (H : RA w 3 A c K) {sp : Nat} (hsp : sp ≤ 30) : ∀ (m k f : Nat) (v : jW), (∀ b, b ≠ 92 → v.1 b = w.1 b) → (∀ j, j < k → v.1 92 j = 0) → k + m = 300 → m < f → ∃ v', f_Search_markEyes_h2 f (nI sp) (nI k) v = some v' ∧ (∀ b, b ≠ 92 → v'.1 b = w.1 b) ∧ Ey2 v' A c sp (c 13) := by
  have l1 := l_1 H
  intro m
  induction m with
  | zero =>
    intro k f v hv hs hk hf
    obtain ⟨f, rfl⟩ : ∃ j, f = j + 1 := ⟨f - 1, by omega⟩
    rw [f_Search_markEyes_h2, nI_rfl 300, if_neg (nI_nlt (by omega) (by omega))]
    refine c_mkEyes26 H hsp (c 13) 0 jfu v hv (fun s o h1 h2 => ?_) (by omega) (by have := l_13 H; unfold jfu; omega)
    rw [hs _ (by omega), spp, Bool.false_and, Bool.and_false]; rfl
  | succ m ih =>
    intro k f v hv hs hk hf
    obtain ⟨f, rfl⟩ : ∃ j, f = j + 1 := ⟨f - 1, by omega⟩
    rw [f_Search_markEyes_h2, nI_rfl 300, if_pos (nI_lt (by omega) (by omega)), jal_c, jal_c, jin_nI (by omega) (by omega), show jbo 0 = true by decide, if_pos (show (true && (true && jal [])) = true from rfl), jlw_e, nI_clamp (by omega), ip_1]
    refine ih (k + 1) f _ (fun b hb => (jup_fn hb).trans (hv b hb)) (fun j hj => ?_) (by omega) (by omega)
    show jup v.1 92 k 0 92 j = 0
    by_cases q : j = k
    · rw [q, jup_eq]
    · rw [jup_k q]; exact hs j (by omega)
def spn (c : Nat → Nat) (n : Nat) : Nat := if 2000 - c 0 < n then 2000 - c 0 else n
theorem c_find (H : RA w 3 A c K) {iw la : Int32} {n : Nat} (hn : n ≤ 30) : ∃ v, f_Search_find la (nI n) iw w = some (nI (tls A c la (spn c n) (c 3) 0).length, v) ∧ Sq v w ∧ ∀ x, hit iw (tls A c la (spn c n) (c 3) 0) 0 = some x → v.1 90 3 = nI x.1 ∧ v.1 90 4 = nI x.2.1 ∧ v.1 90 5 = nI (c 0 + x.2.2) := by
  have l0 := l_0 H
  have l1 := l_1 H
  have l3 := l_3 H
  have hsp : spn c n ≤ 30 := by unfold spn; split <;> omega
  obtain ⟨u, hu⟩ : ∃ u : jW, u = (jup w.1 90 2 0, w.2) := ⟨_, rfl⟩
  have fu : ∀ b, b ≠ 90 → u.1 b = w.1 b := fun b hb => by rw [hu]; dsimp only; rw [jup_fn hb]
  have Gu : RA u 3 A c K := RA_fr H (fun b _ _ _ => fu b (by omega))
  obtain ⟨u1, a1, a2, a3⟩ := c_mkClosed Gu (c 1) 0 jfu u (fun _ _ => rfl) (fun s hs => absurd hs (Nat.not_lt_zero s)) (by omega) (by unfold jfu; omega)
  have G1 : RA u1 3 A c K := RA_fr Gu (fun b _ _ _ => a2 b (by omega))
  obtain ⟨u2, b1, b2, b3⟩ := c_mkEyes2 G1 hsp 300 0 jfu u1 (fun _ _ => rfl) (fun s hs => absurd hs (Nat.not_lt_zero s)) (by omega) (by unfold jfu; omega)
  have G2 : RA u2 3 A c K := RA_fr G1 (fun b _ _ _ => b2 b (by omega))
  have esp : (if (2000 - nI (c 0) : Int32) < nI n then (2000 - nI (c 0) : Int32) else nI n) = nI (spn c n) := by
    rw [show (2000 : Int32) = nI 2000 from rfl, nI_sub (by omega)]
    unfold spn
    by_cases z : 2000 - c 0 < n
    · rw [if_pos z, if_pos (nI_lt z (by omega))]
    · rw [if_neg z, if_neg (nI_nlt (by omega) (by omega))]
  have E2 : Eye u2 A c (spn c n) := ⟨fun s hs => by rw [b2 91 (by omega)]; exact a3 s hs, fun s o hs ho => by rw [b3 s o hs ho, ← spt_spp (base := 20880)]⟩
  have C2 : Cun u2 c iw [] := ⟨by rw [b2 90 (by omega), a2 90 (by omega), hu]; dsimp only; rw [jup_eq]; rfl, fun x hx => by cases hx⟩
  obtain ⟨v, d1, d2, d3⟩ := c_un34 (la := la) G2 hsp (c 3) 0 jfu u2 [] (fun _ _ => rfl) E2 C2 (by omega) (by unfold jfu; omega) (by rw [List.length_nil]; omega)
  rw [List.nil_append] at d1 d3
  have u0 : u.1 3 0 = nI (c 0) := rs_0 Gu
  refine ⟨v, ?_, ⟨fun b q => ?_, fun j _ => ?_⟩, d3.2⟩
  · rw [f_Search_find, jlw_e, ← hu, u0, esp, f_Search_markClosed]
    have a1' : f_Search_markClosed_h2 jfu 0 u = some u1 := a1
    have b1' : f_Search_markEyes_h2 jfu (nI (spn c n)) 0 u1 = some u2 := b1
    rw [a1', ob, f_Search_markEyes, b1', ob]
    exact d1
  · have b90 : b ≠ 90 := fun z => by rw [z] at q; exact absurd q (by decide)
    have b91 : b ≠ 91 := fun z => by rw [z] at q; exact absurd q (by decide)
    have b92 : b ≠ 92 := fun z => by rw [z] at q; exact absurd q (by decide)
    rw [d2 b b90, b2 b b92, a2 b b91, fu b b90]
  · rw [d2 93 (by omega), b2 93 (by omega), a2 93 (by omega), fu 93 (by omega)]
/-! the reference -/
theorem m_see (H : RA z0 3 (w.1 94) c K) {t s d : Nat} (ht : t < c 3) (hs : s < c 1) : f_Model_isSeen (nI t) (nI s) (nI d) w = some (bz (see (w.1 94) c t s d), w) := by
  have l1 := l_1 H
  have l3 := l_3 H
  rw [f_Model_isSeen, ms_2 (by omega), ob, see]
  dsimp only
  by_cases q1 : w.1 94 (40 + 8 * s + 2) = 1
  · rw [if_pos q1, decide_eq_true q1]; rfl
  rw [if_neg q1, decide_eq_false q1, Bool.false_or, m_sealed H, ob]
  dsimp only
  cases q2 : isl (w.1 94) c (nI s) with
  | true => rw [bz_t, if_neg one_ne]; rfl
  | false =>
    rw [bz_f, if_pos rfl, mt_1 (by omega), ob, Bool.false_or, if_pos (by decide), jk_16]
    dsimp only
    by_cases q3 : w.1 94 (240 + 12 * t + 1) < w.1 94 16
    · rw [if_pos q3, decide_eq_true q3]; rfl
    rw [if_neg q3, decide_eq_false q3, ms_3 (by omega), ob, Bool.not_false, Bool.true_and]
    dsimp only
    by_cases q4 : w.1 94 (40 + 8 * s + 3) = 0
    rotate_left
    · rw [if_neg q4, decide_eq_false q4]; rfl
    rw [if_pos q4, decide_eq_true q4, Bool.true_and, m_told (h_13 H) (l_13 H), ob]
    dsimp only
    cases q5 : spt (w.1 94) 20880 (nI s) (nI d) (c 13) 0 with
    | false => rw [bz_f, if_pos rfl]; rfl
    | true =>
      rw [bz_t, if_neg one_ne, m_cloudy (h_12 H) (l_12 H), ob]
      dsimp only
      cases spt (w.1 94) 20760 (nI s) (nI d) (c 12) 0 <;> rfl
def Trk (v : jW) (c : Nat → Nat) (x : Tr) : Prop := v.1 93 23 = nI x.1 ∧ v.1 93 24 = nI x.2.1 ∧ v.1 93 25 = nI (c 0 + x.2.2)
theorem m_un108 (H : RA z0 3 A c K) {iw la : Int32} {t p s n : Nat} {k6 : Int32 → Int32 → Int32 → Int32 → Int32 → jW → Option (Int32 × jW)} {k50 : Int32 → Int32 → Int32 → Int32 → Int32 → Int32 → Int32 → jW → Option (Int32 × jW)} (ht : t < c 3) (hp : p < c 1) (hs : s < c 1) (hn : n ≤ 30) : ∀ (m o f : Nat) (v : jW) (P : List Tr), v.1 94 = A → o + m = spn c n → m < f → hit iw P 0 = none →
    (∃ x v', hit iw (P ++ dls A c t p s m o) 0 = some x ∧ f_Model_find_h108 k6 k50 f la (nI n) iw (nI P.length) (nI t) (nI p) (nI s) (nI (c 0 + o)) v = some (-1, v') ∧ Trk v' c x ∧ Sq v' v) ∨
    (hit iw (P ++ dls A c t p s m o) 0 = none ∧ ∃ v', f_Model_find_h108 k6 k50 f la (nI n) iw (nI P.length) (nI t) (nI p) (nI s) (nI (c 0 + o)) v = k50 la (nI n) iw (nI (P ++ dls A c t p s m o).length) (nI t) (nI p) (nI (s + 1)) v' ∧ Sq v' v) := by
  have l0 := l_0 H
  intro m
  induction m with
  | zero =>
    intro o f v P hA ho hf hh
    obtain ⟨f, rfl⟩ : ∃ j, f = j + 1 := ⟨f - 1, by omega⟩
    refine Or.inr ⟨by rw [dls, List.append_nil]; exact hh, v, ?_, Sq_r⟩
    rw [dls, List.append_nil, f_Model_find_h108, if_pos (by decide), jk_0, hA, h_0 H, nI_add]
    simp only [ip_1]
    unfold spn at ho
    by_cases z : c 0 + o < c 0 + n
    · rw [if_pos (nI_lt z (by omega)), if_neg (show ¬ nI (c 0 + o) ≤ 1999 from nI_ge (a := 1999) (by
        split at ho <;> omega) (by omega))]
    · rw [if_neg (nI_nlt (by omega) (by split at ho <;> omega))]
  | succ m ih =>
    intro o f v P hA ho hf hh
    obtain ⟨f, rfl⟩ : ∃ j, f = j + 1 := ⟨f - 1, by omega⟩
    have G : RA z0 3 (v.1 94) c K := by rw [hA]; exact H
    have osp : o < spn c n := by omega
    have o1 : c 0 + o < c 0 + n ∧ c 0 + o ≤ 1999 := by
      unfold spn at osp
      split at osp <;> omega
    have e1 := m_see (d := c 0 + o) G ht hp
    have e2 := m_see (d := c 0 + o) G ht hs
    rw [hA] at e1 e2
    rw [f_Model_find_h108, if_pos (by decide), jk_0, hA, h_0 H, nI_add, if_pos (nI_lt o1.1 (by omega)), if_pos (show nI (c 0 + o) ≤ 1999 from nI_le (b := 1999) o1.2 (by omega)), e1, ob, dls]
    dsimp only
    simp only [ip_1]
    have sk : ∀ l, l = [] → (∃ x v', hit iw (P ++ (l ++ dls A c t p s m (o + 1))) 0 = some x ∧ f_Model_find_h108 k6 k50 f la (nI n) iw (nI P.length) (nI t) (nI p) (nI s) (nI (c 0 + o + 1)) v = some (-1, v') ∧ Trk v' c x ∧ Sq v' v) ∨ (hit iw (P ++ (l ++ dls A c t p s m (o + 1))) 0 = none ∧ ∃ v', f_Model_find_h108 k6 k50 f la (nI n) iw (nI P.length) (nI t) (nI p) (nI s) (nI (c 0 + o + 1)) v = k50 la (nI n) iw (nI (P ++ (l ++ dls A c t p s m (o + 1))).length) (nI t) (nI p) (nI (s + 1)) v' ∧ Sq v' v) := fun l hl => by
      rw [hl, List.nil_append]
      exact ih (o + 1) f v P hA (by omega) (by omega) hh
    cases q1 : see A c t p (c 0 + o) with
    | true =>
      rw [bz_t, if_neg one_ne]
      exact sk _ (if_neg (by unfold uns; rw [q1]; simp))
    | false =>
      rw [bz_f, if_pos rfl, e2, ob]
      dsimp only
      cases q2 : see A c t s (c 0 + o) with
      | true =>
        rw [bz_t, if_neg one_ne]
        exact sk _ (if_neg (by unfold uns; rw [q1, q2]; simp))
      | false =>
        have eu : uns A c t p s o = true := by unfold uns; rw [q1, q2]; rfl
        rw [bz_f, if_pos rfl, jlw_e, jlw_e, jlw_e, eu, if_pos rfl, ← List.append_assoc]
        dsimp only
        obtain ⟨u, hu⟩ : ∃ u : jW, u = (jup (jup (jup v.1 93 23 (nI t)) 93 24 (nI s)) 93 25 (nI (c 0 + o)), v.2) := ⟨_, rfl⟩
        have Su : Sq u v := by
          rw [hu]
          exact Sq_t (Sq_jup (w := (jup (jup v.1 93 23 (nI t)) 93 24 (nI s), v.2)) (by decide) (Or.inr (by omega))) (Sq_t (Sq_jup (w := (jup v.1 93 23 (nI t), v.2)) (by decide) (Or.inr (by omega))) (Sq_jup (by decide) (Or.inr (by omega))))
        have hh1 : hit iw (P ++ [(t, s, o)]) 0 = if nI P.length = iw then some (t, s, o) else none := by
          rw [hit_app, hh, Nat.zero_add]; rfl
        rw [← hu]
        by_cases q3 : nI P.length = iw
        · rw [if_pos q3]
          rw [if_pos q3] at hh1
          refine Or.inl ⟨(t, s, o), u, ?_, rfl, ⟨?_, ?_, ?_⟩, Su⟩
          · rw [hit_app, hh1]
          · rw [hu]; dsimp only; rw [jup_k (by omega), jup_k (by omega), jup_eq]
          · rw [hu]; dsimp only; rw [jup_k (by omega), jup_eq]
          · rw [hu]; dsimp only; rw [jup_eq]
        · rw [if_neg q3]
          rw [if_neg q3] at hh1
          have k := ih (o + 1) f u (P ++ [(t, s, o)]) ((Su.1 94 (by decide)).trans hA) (by omega) (by omega) hh1
          rw [show (P ++ [(t, s, o)]).length = P.length + 1 by rw [List.length_append]; rfl] at k
          rcases k with ⟨x, v', r1, r2, r3, r4⟩ | ⟨r1, v', r2, r3⟩
          · exact Or.inl ⟨x, v', r1, r2, r3, Sq_t r4 Su⟩
          · exact Or.inr ⟨r1, v', r2, Sq_t r3 Su⟩
theorem m_un50 (H : RA z0 3 A c K) {iw la : Int32} {t p n : Nat} {k6 : Int32 → Int32 → Int32 → Int32 → Int32 → jW → Option (Int32 × jW)} (ht : t < c 3) (hp : p < c 1) (hl : A (40 + 8 * p) = la) (hn : n ≤ 30) : ∀ (m s f : Nat) (v : jW) (P : List Tr), v.1 94 = A → s + m = c 1 → m < f → hit iw P 0 = none →
    (∃ x v', hit iw (P ++ sls' A c t p (spn c n) m s) 0 = some x ∧ f_Model_find_h50 k6 f la (nI n) iw (nI P.length) (nI t) (nI p) (nI s) v = some (-1, v') ∧ Trk v' c x ∧ Sq v' v) ∨
    (hit iw (P ++ sls' A c t p (spn c n) m s) 0 = none ∧ ∃ v', f_Model_find_h50 k6 f la (nI n) iw (nI P.length) (nI t) (nI p) (nI s) v = k6 la (nI n) iw (nI (P ++ sls' A c t p (spn c n) m s).length) (nI (t + 1)) v' ∧ Sq v' v) := by
  have l0 := l_0 H
  have l1 := l_1 H
  have l2 := l_2 H
  intro m
  induction m with
  | zero =>
    intro s f v P hA ho hf hh
    obtain ⟨f, rfl⟩ : ∃ j, f = j + 1 := ⟨f - 1, by omega⟩
    refine Or.inr ⟨by rw [sls', List.append_nil]; exact hh, v, ?_, Sq_r⟩
    rw [sls', List.append_nil, f_Model_find_h50, if_pos (by decide), jk_1, hA, h_1 H, if_neg (nI_nlt (by omega) (by omega)), ip_1]
  | succ m ih =>
    intro s f v P hA ho hf hh
    obtain ⟨f, rfl⟩ : ∃ j, f = j + 1 := ⟨f - 1, by omega⟩
    have G : RA z0 3 (v.1 94) c K := by rw [hA]; exact H
    have hs : s < c 1 := by omega
    rw [f_Model_find_h50, if_pos (by decide), jk_1, hA, h_1 H, if_pos (nI_lt (by omega) (by omega)), if_pos (show nI p < 100 from nI_lt (b := 100) (by omega) (by omega)), sls']
    obtain ⟨xw, v1, k1, k2, k3⟩ := m_wayOf (w := v) G (i := p) (j := s) (by omega) (by omega)
    rw [hA] at k2
    have ed := dst_e k2
    have sk : ∀ (l : List Tr) (u : jW), l = [] → Sq u v → (∃ x v', hit iw (P ++ (l ++ sls' A c t p (spn c n) m (s + 1))) 0 = some x ∧ f_Model_find_h50 k6 f la (nI n) iw (nI P.length) (nI t) (nI p) (nI (s + 1)) u = some (-1, v') ∧ Trk v' c x ∧ Sq v' v) ∨ (hit iw (P ++ (l ++ sls' A c t p (spn c n) m (s + 1))) 0 = none ∧ ∃ v', f_Model_find_h50 k6 f la (nI n) iw (nI P.length) (nI t) (nI p) (nI (s + 1)) u = k6 la (nI n) iw (nI (P ++ (l ++ sls' A c t p (spn c n) m (s + 1))).length) (nI (t + 1)) v' ∧ Sq v' v) := fun l u hl hu => by
      rw [hl, List.nil_append]
      rcases ih (s + 1) f u P ((hu.1 94 (by decide)).trans hA) (by omega) (by omega) hh with ⟨x, v', r1, r2, r3, r4⟩ | ⟨r1, v', r2, r3⟩
      · exact Or.inl ⟨x, v', r1, r2, r3, Sq_t r4 hu⟩
      · exact Or.inr ⟨r1, v', r2, Sq_t r3 hu⟩
    by_cases q1 : s = p
    · rw [if_pos (congrArg nI q1), ip_1]
      have k2' : Dis A (c 2) p p xw := by rw [q1] at k2; exact k2
      exact sk _ v (if_pos (by rw [ed, Dis_self k2']; decide)) Sq_r
    rw [if_neg (fun z => q1 ((nI_eq (by omega) (by omega)).mp z)), ms_0 (by omega), ob, hA]
    dsimp only
    rcases Dis_pos k2 q1 with e | ⟨l, e1, e2, e3⟩
    · -- no way
      have z0' : dst A (c 2) p s ≤ 0 := by rw [ed, e]; decide
      by_cases q2 : A (40 + 8 * s) = la
      · rw [if_pos q2, k1, ob, e]
        dsimp only
        rw [if_pos (show (-1 : Int32) < 0 by decide), ip_1]
        exact sk _ v1 (if_pos z0') (X96_Sq k3)
      · rw [if_neg q2, ip_1]
        exact sk _ v (if_pos z0') Sq_r
    · have q2 : A (40 + 8 * s) = la := by
        rcases k2 with ⟨g1, g2⟩ | ⟨l', g1, g2, ⟨n', g3⟩, g4⟩
        · rw [g1] at e3
          exact absurd e3.symm (nI_ne_m1 (by omega))
        · rw [Wk_land (p_Iroad H) (by omega) (by omega) n' s l' g3]; exact hl
      have hA1 : v1.1 94 = A := (k3 94 (by omega)).trans hA
      have zz : ¬ dst A (c 2) p s ≤ 0 := by rw [ed, e3]; exact nI_nle (by omega) (by omega)
      rw [if_pos q2, k1, ob, e3]
      dsimp only
      rw [if_neg (nI_pos (by omega)), if_pos (show jal [jin 0 21000] = true by decide), jk_0, hA1, h_0 H, if_neg zz, ← List.append_assoc]
      have k := m_un108 (iw := iw) (la := la) (k6 := k6) (k50 := f_Model_find_h50 k6 f) H ht hp hs hn (spn c n) 0 jfu v1 P hA1 (by omega) (by unfold spn jfu; split <;> omega) hh
      rw [Nat.add_zero] at k
      rcases k with ⟨x, v', r1, r2, r3, r4⟩ | ⟨r1, v', r2, r3⟩
      · refine Or.inl ⟨x, v', ?_, r2, r3, Sq_t r4 (X96_Sq k3)⟩
        rw [hit_app, r1]
      · rw [r2]
        have hS := Sq_t r3 (X96_Sq k3)
        rcases ih (s + 1) f v' (P ++ dls A c t p s (spn c n) 0) ((r3.1 94 (by decide)).trans hA1) (by omega) (by omega) r1 with ⟨x, v2, y1, y2, y3, y4⟩ | ⟨y1, v2, y2, y3⟩
        · exact Or.inl ⟨x, v2, y1, y2, y3, Sq_t y4 hS⟩
        · exact Or.inr ⟨y1, v2, y2, Sq_t y3 hS⟩
theorem m_un6 (H : RA z0 3 A c K) {iw la : Int32} {n : Nat} (hn : n ≤ 30) : ∀ (m t f : Nat) (v : jW) (P : List Tr), v.1 94 = A → t + m = c 3 → m < f → hit iw P 0 = none →
    (∃ x v', hit iw (P ++ tls A c la (spn c n) m t) 0 = some x ∧ f_Model_find_h6 f la (nI n) iw (nI P.length) (nI t) v = some (-1, v') ∧ Trk v' c x ∧ Sq v' v) ∨
    (hit iw (P ++ tls A c la (spn c n) m t) 0 = none ∧ ∃ v', f_Model_find_h6 f la (nI n) iw (nI P.length) (nI t) v = some (nI (P ++ tls A c la (spn c n) m t).length, v') ∧ Sq v' v) := by
  have l0 := l_0 H
  have l1 := l_1 H
  have l3 := l_3 H
  intro m
  induction m with
  | zero =>
    intro t f v P hA ho hf hh
    obtain ⟨f, rfl⟩ : ∃ j, f = j + 1 := ⟨f - 1, by omega⟩
    refine Or.inr ⟨by rw [tls, List.append_nil]; exact hh, v, ?_, Sq_r⟩
    rw [tls, List.append_nil, f_Model_find_h6, if_pos (by decide), jk_3, hA, h_3 H, if_neg (nI_nlt (by omega) (by omega))]
  | succ m ih =>
    intro t f v P hA ho hf hh
    obtain ⟨f, rfl⟩ : ∃ j, f = j + 1 := ⟨f - 1, by omega⟩
    have G : RA z0 3 (v.1 94) c K := by rw [hA]; exact H
    have ht : t < c 3 := by omega
    obtain ⟨p, hp, hp2⟩ := mwh_c (d := nI (c 0)) H ht
    have e100 : ∀ a : Nat, 100 ≤ a → a < 2 ^ 31 → f_Model_find_j45 (f_Model_find_h6 f) la (nI n) iw (nI P.length) (nI t) (nI a) v = f_Model_find_h6 f la (nI n) iw (nI P.length) (nI (t + 1)) v := fun a ha ha2 => by
      rw [f_Model_find_j45, show jfu = 29999 + 1 from rfl, f_Model_find_h50, if_pos (by decide), jk_1, hA, h_1 H, ip_1]
      have z : ¬ nI a < 100 := nI_nlt (a := a) (b := 100) ha ha2
      split
      · first | rfl | rw [if_neg z]
      · rfl
    have sk : ∀ l, l = [] → (∃ x v', hit iw (P ++ (l ++ tls A c la (spn c n) m (t + 1))) 0 = some x ∧ f_Model_find_h6 f la (nI n) iw (nI P.length) (nI (t + 1)) v = some (-1, v') ∧ Trk v' c x ∧ Sq v' v) ∨ (hit iw (P ++ (l ++ tls A c la (spn c n) m (t + 1))) 0 = none ∧ ∃ v', f_Model_find_h6 f la (nI n) iw (nI P.length) (nI (t + 1)) v = some (nI (P ++ (l ++ tls A c la (spn c n) m (t + 1))).length, v') ∧ Sq v' v) := fun l hl => by
      rw [hl, List.nil_append]
      exact ih (t + 1) f v P hA (by omega) (by omega) hh
    have ew := m_pl (d := nI (c 0)) G ht
    rw [hA] at ew
    rw [f_Model_find_h6, if_pos (by decide), jk_3, hA, h_3 H, if_pos (nI_lt (by omega) (by omega)), mt_3 (by omega), ob, hA, tls, hp, nI_clamp (by omega)]
    dsimp only
    by_cases q1 : A (240 + 12 * t + 3) = la
    rotate_left
    · have e := e100 100 (by omega) (by omega)
      have e' : f_Model_find_j45 (f_Model_find_h6 f) la (nI n) iw (nI P.length) (nI t) 100 v = _ := e
      rw [if_neg q1, e']
      exact sk _ (if_neg (fun z => q1 z.1))
    rw [if_pos q1, if_pos (show jal [jin 0 21000] = true by decide), jk_0, h_0 H, ew, ob, hp]
    dsimp only
    by_cases q2 : p < c 1
    rotate_left
    · rw [e100 p (by omega) (by omega)]
      exact sk _ (if_neg (fun z => nI_nlt (a := p) (b := 100) (by omega) (by omega) z.2))
    rw [if_pos ⟨q1, nI_lt (b := 100) (by omega) (by omega)⟩, f_Model_find_j45, ← List.append_assoc]
    have hl : A (40 + 8 * p) = la := by rw [mwh_land H ht hp q2]; exact q1
    have k := m_un50 (iw := iw) (k6 := f_Model_find_h6 f) H ht q2 hl hn (c 1) 0 jfu v P hA (by omega) (by unfold jfu; omega) hh
    rcases k with ⟨x, v', r1, r2, r3, r4⟩ | ⟨r1, v', r2, r3⟩
    · refine Or.inl ⟨x, v', ?_, r2, r3, r4⟩
      rw [hit_app, r1]
    · have r2' : f_Model_find_h50 (f_Model_find_h6 f) jfu la (nI n) iw (nI P.length) (nI t) (nI p) 0 v = _ := r2
      rw [r2']
      rcases ih (t + 1) f v' (P ++ sls' A c t p (spn c n) (c 1) 0) ((r3.1 94 (by decide)).trans hA) (by omega) (by omega) r1 with ⟨x, v2, y1, y2, y3, y4⟩ | ⟨y1, v2, y2, y3⟩
      · exact Or.inl ⟨x, v2, y1, y2, y3, Sq_t y4 r3⟩
      · exact Or.inr ⟨y1, v2, y2, Sq_t y3 r3⟩
theorem m_find (H : RA z0 3 (w.1 94) c K) {iw la : Int32} {n : Nat} (hn : n ≤ 30) : (∃ x v, hit iw (tls (w.1 94) c la (spn c n) (c 3) 0) 0 = some x ∧ f_Model_find la (nI n) iw w = some (-1, v) ∧ Trk v c x ∧ Sq v w) ∨ (hit iw (tls (w.1 94) c la (spn c n) (c 3) 0) 0 = none ∧ ∃ v, f_Model_find la (nI n) iw w = some (nI (tls (w.1 94) c la (spn c n) (c 3) 0).length, v) ∧ Sq v w) := by
  have k := m_un6 (iw := iw) (la := la) H hn (c 3) 0 jfu w [] rfl (by omega) (by have := l_3 H; unfold jfu; omega) rfl
  simp only [List.nil_append] at k
  exact k
theorem tls_len {la : Int32} {sp : Nat} (hsp : sp ≤ 30) (h1 : c 1 ≤ 10) : ∀ m t, (tls A c la sp m t).length ≤ 300 * m := by
  intro m
  induction m with
  | zero => intro t; exact Nat.le_refl _
  | succ m ih =>
    intro t
    rw [tls, List.length_append]
    have := ih (t + 1)
    have := sls_len (A := A) (c := c) (t := t) (p := (mwh A (c 4) t (nI (c 0))).toNatClampNeg) hsp (c 1) 0
    split
    · omega
    · rw [List.length_nil]; omega
theorem hit_m1 : ∀ (l : List Tr) (n : Nat), n + l.length < 2 ^ 30 → hit (-1) l n = none := by
  intro l
  induction l with
  | nil => intro n _; rfl
  | cons x l ih =>
    intro n h
    rw [List.length_cons] at h
    rw [hit, if_neg (nI_ne_m1 (by omega)), ih (n + 1) (by omega)]
theorem spn_le {n : Nat} (hn : n ≤ 30) : spn c n ≤ 30 := by unfold spn; split <;> omega
theorem q_unseen (h : Inv w c ci K) (hK : K < 512) (x y : Int32) : Cal w (K + 1) (f_Count_unseen x y) (f_Model_unseen x y) := by
  have l1 := l_1 h.1
  have l3 := l_3 h.1
  refine Cal_v (V := fun A => if ¬ x < 0 ∧ x ≤ 1 then (if ¬ y < 1 ∧ y ≤ 30 then nI (tls A c x (spn c y.toNatClampNeg) (c 3) 0).length else -1) else -1) h hK (fun u hu => ?_) (fun u hu => ?_)
  · have H := hu.1
    rw [f_Count_unseen, c_isLand, ob]
    dsimp only
    by_cases g1 : ¬ x < 0 ∧ x ≤ 1
    rotate_left
    · rw [b2_n g1, if_pos rfl, if_neg g1]; exact ⟨u, rfl, Sq_r⟩
    rw [b2_p g1, if_neg one_ne, if_pos g1]
    by_cases g2 : y < 1
    · rw [if_pos g2, if_neg (fun z => z.1 g2)]; exact ⟨u, rfl, Sq_r⟩
    rw [if_neg g2]
    by_cases g3 : y ≤ 30
    rotate_left
    · rw [if_neg g3, if_neg (fun z => g3 z.2)]; exact ⟨u, rfl, Sq_r⟩
    obtain ⟨n, hn, rfl⟩ := rngle (n := 30) (x := y) (by omega) ⟨fun z => g2 (Int32.lt_of_lt_of_le z (by decide)), g3⟩
    obtain ⟨v, e1, e2, e3⟩ := c_find (iw := -1) (la := x) H hn
    rw [if_pos g3, if_pos ⟨g2, g3⟩, e1, ob, nI_clamp (by omega)]
    exact ⟨v, rfl, e2⟩
  · have H := hu.1
    rw [f_Model_unseen, m_isIn, ob]
    dsimp only
    by_cases g1 : ¬ x < 0 ∧ x ≤ 1
    rotate_left
    · rw [b2_n g1, if_pos rfl, if_neg g1]; exact ⟨u, rfl, Sq_r⟩
    rw [b2_p g1, if_neg one_ne, if_pos g1, m_isIn, ob]
    dsimp only
    by_cases g2 : ¬ y < 1 ∧ y ≤ 30
    rotate_left
    · rw [b2_n g2, if_pos rfl, if_neg g2]; exact ⟨u, rfl, Sq_r⟩
    obtain ⟨n, hn, rfl⟩ := rngle (n := 30) (x := y) (by omega) ⟨fun z => g2.1 (Int32.lt_of_lt_of_le z (by decide)), g2.2⟩
    rw [b2_p g2, if_neg one_ne, if_pos g2, nI_clamp (by omega)]
    have hl := tls_len (A := u.1 94) (c := c) (la := x) (spn_le (c := c) hn) l1 (c 3) 0
    rcases m_find (iw := -1) (la := x) H hn with ⟨z, v, e1, e2, e3, e4⟩ | ⟨e1, v, e2, e3⟩
    · rw [hit_m1 _ _ (by omega)] at e1
      cases e1
    · rw [e2, ob]; exact ⟨v, rfl, e3⟩
theorem q_trick (h : Inv w c ci K) (hK : K < 512) (x y z j : Int32) : Cal w (K + 1) (f_Count_trick x y z j) (f_Model_trick x y z j) := by
  have l1 := l_1 h.1
  have l3 := l_3 h.1
  refine Cal_v (V := fun A => if (¬ x < 0 ∧ x ≤ 1) ∧ (¬ y < 1 ∧ y ≤ 30) ∧ ¬ z < 0 then (match hit z (tls A c x (spn c y.toNatClampNeg) (c 3) 0) 0 with | none => -1 | some t => if j = 0 then nI t.1 else if j = 1 then nI t.2.1 else if j = 2 then nI (c 0 + t.2.2) else -1) else -1) h hK (fun u hu => ?_) (fun u hu => ?_)
  · have H := hu.1
    rw [f_Count_trick, c_isLand, ob]
    dsimp only
    by_cases g1 : ¬ x < 0 ∧ x ≤ 1
    rotate_left
    · rw [b2_n g1, if_pos rfl, if_neg (fun q => g1 q.1)]; exact ⟨u, rfl, Sq_r⟩
    rw [b2_p g1, if_neg one_ne]
    by_cases g2 : y < 1
    · rw [if_pos g2, if_neg (fun q => q.2.1.1 g2)]; exact ⟨u, rfl, Sq_r⟩
    rw [if_neg g2]
    by_cases g3 : y ≤ 30
    rotate_left
    · rw [if_neg g3, if_neg (fun q => g3 q.2.1.2)]; exact ⟨u, rfl, Sq_r⟩
    rw [if_pos g3]
    by_cases g4 : z < 0
    · rw [if_pos g4, if_neg (fun q => q.2.2 g4)]; exact ⟨u, rfl, Sq_r⟩
    obtain ⟨n, hn, rfl⟩ := rngle (n := 30) (x := y) (by omega) ⟨fun z => g2 (Int32.lt_of_lt_of_le z (by decide)), g3⟩
    obtain ⟨v, e1, e2, e3⟩ := c_find (iw := z) (la := x) H hn
    rw [if_neg g4, if_pos ⟨g1, ⟨g2, g3⟩, g4⟩, e1, ob, nI_clamp (by omega)]
    dsimp only
    have hl := tls_len (A := u.1 94) (c := c) (la := x) (spn_le (c := c) hn) l1 (c 3) 0
    obtain ⟨I, hI, rfl⟩ := nI_of g4
    by_cases q : (tls (u.1 94) c x (spn c n) (c 3) 0).length ≤ I
    · rw [if_pos (nI_le q hI)]
      cases e : hit (nI I) (tls (u.1 94) c x (spn c n) (c 3) 0) 0 with
      | none => exact ⟨v, rfl, e2⟩
      | some t =>
        obtain ⟨i, i1, i2, i3⟩ := hit_lt _ _ e
        have := (nI_eq (by omega) hI).mp i3
        omega
    · obtain ⟨t, ht⟩ := hit_of (iw := nI I) (j := I) rfl (tls (u.1 94) c x (spn c n) (c 3) 0) 0 (Nat.zero_le _) (by omega)
      obtain ⟨r1, r2, r3⟩ := e3 t ht
      rw [if_neg (nI_ge (by omega) (by omega)), ht, r1, r2, r3]
      dsimp only
      refine ⟨v, ?_, e2⟩
      split
      · rfl
      · split
        · rfl
        · split <;> rfl
  · have H := hu.1
    rw [f_Model_trick, m_isIn, ob]
    dsimp only
    by_cases g1 : ¬ x < 0 ∧ x ≤ 1
    rotate_left
    · rw [b2_n g1, if_pos rfl, if_neg (fun q => g1 q.1)]; exact ⟨u, rfl, Sq_r⟩
    rw [b2_p g1, if_neg one_ne, m_isIn, ob]
    dsimp only
    by_cases g2 : ¬ y < 1 ∧ y ≤ 30
    rotate_left
    · rw [b2_n g2, if_pos rfl, if_neg (fun q => g2 q.2.1)]; exact ⟨u, rfl, Sq_r⟩
    rw [b2_p g2, if_neg one_ne]
    by_cases g4 : z < 0
    · rw [if_pos g4, if_neg (fun q => q.2.2 g4)]; exact ⟨u, rfl, Sq_r⟩
    obtain ⟨n, hn, rfl⟩ := rngle (n := 30) (x := y) (by omega) ⟨fun z => g2.1 (Int32.lt_of_lt_of_le z (by decide)), g2.2⟩
    rw [if_neg g4, if_pos ⟨g1, g2, g4⟩, m_isIn, ob, nI_clamp (by omega)]
    dsimp only
    have hl := tls_len (A := u.1 94) (c := c) (la := x) (spn_le (c := c) hn) l1 (c 3) 0
    by_cases g5 : ¬ j < 0 ∧ j ≤ 2
    rotate_left
    · have j0 : ¬ j = 0 := fun q => g5 (by rw [q]; decide)
      have j1 : ¬ j = 1 := fun q => g5 (by rw [q]; decide)
      have j2 : ¬ j = 2 := fun q => g5 (by rw [q]; decide)
      rw [b2_n g5, if_pos rfl]
      refine ⟨u, ?_, Sq_r⟩
      cases hit z (tls (u.1 94) c x (spn c n) (c 3) 0) 0 with
      | none => rfl
      | some t =>
        dsimp only
        rw [if_neg j0, if_neg j1, if_neg j2]
    rw [b2_p g5, if_neg one_ne]
    rcases m_find (iw := z) (la := x) H hn with ⟨t, v, e1, e2, ⟨r1, r2, r3⟩, e4⟩ | ⟨e1, v, e2, e3⟩
    · rw [e2, ob, e1]
      dsimp only
      rw [if_pos (show (-1 : Int32) < 0 by decide), r1, r2, r3]
      refine ⟨v, ?_, e4⟩
      by_cases j0 : j = 0
      · rw [if_pos j0, if_pos j0]
      · rw [if_neg j0, if_neg j0]
        by_cases j1 : j = 1
        · rw [if_pos j1, if_pos j1]
        · obtain ⟨i, hi, e⟩ := rngle (n := 2) (by omega) g5
          have j2 : j = 2 := by
            rcases (show i = 0 ∨ i = 1 ∨ i = 2 by omega) with q | q | q <;> subst q
            · exact absurd e j0
            · exact absurd e j1
            · exact e
          rw [if_neg j1, if_neg j1, if_pos j2]
    · rw [e2, ob, e1]
      dsimp only
      rw [if_neg (nI_pos (by omega))]
      exact ⟨v, rfl, e3⟩
end UB

/-! LAYER B: visits on the reference's side -/
section Q10
variable {w w' v z0 : jW} {A A' : Nat → Int32} {c ci : Nat → Nat} {K : Nat}
/-- the reference's array while a visit is told -/
def mra (A : Nat → Int32) (c : Nat → Nat) (l s k : Nat) (i : Nat) : Int32 := if i = 11280 + 12 * c 8 then nI l else if i = 11280 + 12 * c 8 + 1 then nI s else if i = 11280 + 12 * c 8 + 2 then nI (c 0) else if 11280 + 12 * c 8 + 3 ≤ i ∧ i < 11280 + 12 * c 8 + 8 then nI (vct A c s (i - (11280 + 12 * c 8 + 3)) k) else A i
theorem mra_A {l s k i : Nat} (h : ¬ (11280 + 12 * c 8 ≤ i ∧ i < 11280 + 12 * c 8 + 8)) : mra A c l s k i = A i := by
  unfold mra
  rw [if_neg (by omega), if_neg (by omega), if_neg (by omega), if_neg (by omega)]
theorem mra_RA (H : RA w 3 A c K) {l s k : Nat} (h8 : c 8 < 100) : RA w 3 (mra A c l s k) c K := P_jvis H h8 (fun _ _ _ _ _ => rfl) (fun i _ q => mra_A (by omega))
theorem mra_At {l s k : Nat} : At (mra A c l s k) A := fun i h1 h2 => mra_A (by omega)
theorem mra_Am {l s k : Nat} : Am (mra A c l s k) A := ⟨fun i h1 h2 _ => mra_A (by omega), fun i h1 h2 => mra_A (by omega)⟩
def Mvs (u v : jW) (A : Nat → Int32) (c : Nat → Nat) (l s k : Nat) : Prop := u.1 94 = mra A c l s k ∧ ∀ b, b ≠ 94 → b ≠ 99 → b ≠ 100 → u.1 b = v.1 b
theorem m_vis108 {l s : Nat} (h8 : c 8 < 100) {d : Int32} : ∀ (m k f : Nat) (u : jW), 3 + k + m = 8 → m < f → (∀ i, u.1 94 i = if 11280 + 12 * c 8 + 3 + k ≤ i ∧ i < 11280 + 12 * c 8 + 8 then A i else mra A c l s 0 i) → (∀ b, b ≠ 94 → u.1 b = v.1 b) → ∃ u', f_Model_visit_h108 f (nI l) (nI s) (nI (11280 + 12 * c 8)) d (nI (3 + k)) u = f_Model_visit_h134 jfu (nI l) (nI s) (nI (11280 + 12 * c 8)) d 0 u' ∧ Mvs u' v A c l s 0 := by
  intro m
  induction m with
  | zero =>
    intro k f u hk hf hu hb
    obtain ⟨f, rfl⟩ : ∃ j, f = j + 1 := ⟨f - 1, by omega⟩
    refine ⟨u, ?_, funext fun i => ?_, fun b q _ _ => hb b q⟩
    · rw [f_Model_visit_h108, if_neg (show ¬ nI (3 + k) < 8 from nI_nlt (a := 3 + k) (b := 8) (by omega) (by omega))]
    · rw [hu i, if_neg (by omega)]
  | succ m ih =>
    intro k f u hk hf hu hb
    obtain ⟨f, rfl⟩ : ∃ j, f = j + 1 := ⟨f - 1, by omega⟩
    obtain ⟨u', e1, e2⟩ := ih (k + 1) f (jup u.1 94 (11280 + 12 * c 8 + (3 + k)) 0, u.2) (by omega) (by omega) (fun i => by
      show jup u.1 94 _ 0 94 i = _
      rw [jup_ap]
      by_cases q : i = 11280 + 12 * c 8 + (3 + k)
      · rw [if_pos ⟨rfl, q⟩, if_neg (by omega)]
        unfold mra
        rw [if_neg (by omega), if_neg (by omega), if_neg (by omega), if_pos (by omega)]
        rfl
      · rw [if_neg (fun z => q z.2), hu i]
        by_cases q2 : 11280 + 12 * c 8 + 3 + k ≤ i ∧ i < 11280 + 12 * c 8 + 8
        · rw [if_pos q2, if_pos (by omega)]
        · rw [if_neg q2, if_neg (by omega)]) (fun b q => (jup_fn q).trans (hb b q))
    refine ⟨u', ?_, e2⟩
    rw [f_Model_visit_h108, if_pos (show nI (3 + k) < 8 from nI_lt (b := 8) (by omega) (by omega)), nI_add, jal_c, jin_nI (by omega) (by omega), if_pos (show (true && jal []) = true from rfl), jlw_e, nI_clamp (by omega), ip_1]
    exact e1
theorem m_vis134 (H : RA z0 3 A c K) {l s : Nat} (h8 : c 8 < 100) (hs : s < c 1) : ∀ (m k f : Nat) (u : jW), k + m = c 3 → m < f → Mvs u v A c l s k → ∃ u', f_Model_visit_h134 f (nI l) (nI s) (nI (11280 + 12 * c 8)) (nI (c 0) - 1) (nI k) u = f_Model_visit_h224 jfu (nI l) (nI s) (nI (11280 + 12 * c 8)) (nI (c 0) - 1) (-1) 0 u' ∧ Mvs u' v A c l s (c 3) := by
  have l3 := l_3 H
  have l4 := l_4 H
  have l1 := l_1 H
  intro m
  induction m with
  | zero =>
    intro k f u hk hf hu
    obtain ⟨f, rfl⟩ : ∃ j, f = j + 1 := ⟨f - 1, by omega⟩
    have ek : k = c 3 := by omega
    subst ek
    refine ⟨u, ?_, hu⟩
    rw [f_Model_visit_h134, if_pos (by decide), jk_3, hu.1, mra_A (by omega), h_3 H, if_neg (nI_nlt (by omega) (by omega))]
  | succ m ih =>
    intro k f u hk hf hu
    obtain ⟨f, rfl⟩ : ∃ j, f = j + 1 := ⟨f - 1, by omega⟩
    have hk3 : k < c 3 := by omega
    have G : RA z0 3 (u.1 94) c K := by rw [hu.1]; exact mra_RA H h8
    have e3 : u.1 94 3 = nI (c 3) := by rw [hu.1, mra_A (by omega)]; exact h_3 H
    have e0 : u.1 94 0 = nI (c 0) := by rw [hu.1, mra_A (by omega)]; exact h_0 H
    have ep : f_Model_whereOf (nI k) (nI (c 0) - 1) u = some (mwh A (c 4) k (nI (c 0) - 1), u) := by
      have q := m_pl (d := nI (c 0) - 1) G (t := k) hk3
      rw [hu.1, mwh_cg mra_Am (by omega) l4] at q
      exact q
    rw [f_Model_visit_h134, if_pos (by decide), jk_3, e3, if_pos (nI_lt (by omega) (by omega)), ep, ob]
    dsimp only
    rw [ip_1]
    by_cases q : mwh A (c 4) k (nI (c 0) - 1) = nI s
    rotate_left
    · rw [if_neg q]
      have e : ∀ j, vct A c s j (k + 1) = vct A c s j k := fun j => by rw [vct, if_neg (fun z => q z.1)]; rfl
      refine ih (k + 1) f u (by omega) (by omega) ⟨hu.1.trans (funext fun i => ?_), hu.2⟩
      unfold mra
      rw [e]
    · rw [if_pos q]
      obtain ⟨kl, hkl⟩ : ∃ kl, kl = A (40 + 8 * s + 1) := ⟨_, rfl⟩
      have es : f_Model_siteAt (nI s) 1 u = some (kl, u) := by rw [ms_1 (by omega), hu.1, mra_A (by omega), hkl]
      obtain ⟨u1, o1, o2⟩ := m_one (d := nI (c 0)) (th := k) (k := 4) (kl := kl) (wo := false) G (by omega) (Or.inr rfl)
      rw [hu.1, one_cg H mra_At (fun i h1 h2 => mra_A (by omega)) (by omega) (Or.inr rfl)] at o1
      have o1' : f_Model_isOne 5 (nI k) kl (nI (c 0)) 0 u = some (bz (one A 4 k kl false (tf A 4 (nI (c 0)) (c 6))), u1) := o1
      have hu1 : u1.1 94 = mra A c l s k := (o2 94 (by omega) (by omega)).trans hu.1
      have col : ∀ j, j < 5 → vcl A c s k = j → ∃ u', f_Model_visit_h134 f (nI l) (nI s) (nI (11280 + 12 * c 8)) (nI (c 0) - 1) (nI (k + 1)) (jup u1.1 94 (11280 + 12 * c 8 + 3 + j) (u1.1 94 (11280 + 12 * c 8 + 3 + j) + 1), u1.2) = f_Model_visit_h224 jfu (nI l) (nI s) (nI (11280 + 12 * c 8)) (nI (c 0) - 1) (-1) 0 u' ∧ Mvs u' v A c l s (c 3) := fun j hj hc => by
        have ev : u1.1 94 (11280 + 12 * c 8 + 3 + j) = nI (vct A c s j k) := by
          rw [hu1]; unfold mra
          rw [if_neg (by omega), if_neg (by omega), if_neg (by omega), if_pos (by omega), show 11280 + 12 * c 8 + 3 + j - (11280 + 12 * c 8 + 3) = j by omega]
        refine ih (k + 1) f _ (by omega) (by omega) ⟨funext fun i => ?_, fun b q1 q2 q3 => ?_⟩
        · show jup u1.1 94 (11280 + 12 * c 8 + 3 + j) _ 94 i = _
          rw [ev, ip_1, jup_ap]
          by_cases z : i = 11280 + 12 * c 8 + 3 + j
          · rw [if_pos ⟨rfl, z⟩, z]
            unfold mra
            rw [if_neg (by omega), if_neg (by omega), if_neg (by omega), if_pos (by omega), show 11280 + 12 * c 8 + 3 + j - (11280 + 12 * c 8 + 3) = j by omega, vct, if_pos ⟨q, hc⟩]
          · rw [if_neg (fun y => z y.2), hu1]
            unfold mra
            by_cases z2 : 11280 + 12 * c 8 + 3 ≤ i ∧ i < 11280 + 12 * c 8 + 8
            · have e' : vct A c s (i - (11280 + 12 * c 8 + 3)) (k + 1) = vct A c s (i - (11280 + 12 * c 8 + 3)) k := by
                rw [vct, if_neg (fun y => z (by have := y.2.symm.trans hc; omega))]; rfl
              rw [e']
            · rw [if_neg z2, if_neg z2]
        · show jup u1.1 94 _ _ b = _
          rw [jup_fn q1]; exact (o2 b q2 q3).trans (hu.2 b q1 q2 q3)
      obtain ⟨sx, th1, th2, th3, ⟨n, n1, n2, n3'⟩, -⟩ := (p_Ithing H).1 k hk3
      have et : f_Model_thingAt (nI k) 0 u1 = some (nI n, u1) := by rw [mt_0 (by omega), hu1, mra_A (by omega), n1]
      rw [es, ob]
      dsimp only
      rw [if_pos (by decide), jk_0, e0, o1', ob]
      dsimp only
      cases eone : one A 4 k kl false (tf A 4 (nI (c 0)) (c 6)) with
      | false =>
        have i3 : nI (11280 + 12 * c 8) + (3 + nI n) = nI (11280 + 12 * c 8 + 3 + n) := by rw [ia_3, nI_add, show 11280 + 12 * c 8 + (3 + n) = 11280 + 12 * c 8 + 3 + n by omega]
        rw [bz_f, if_pos rfl, et, ob]
        dsimp only
        rw [i3, jal_c, jal_c, jin_nI (by omega) (by omega), if_pos (show (true && (true && jal [])) = true from rfl), jlw_e, nI_clamp (by omega)]
        refine col n (by omega) ?_
        unfold vcl
        rw [← hkl, eone, if_neg (by decide), n1, nI_clamp (by omega)]
      | true =>
        have i7 : nI (11280 + 12 * c 8) + 7 = nI (11280 + 12 * c 8 + 3 + 4) := by rw [ip_7]
        rw [bz_t, if_neg one_ne, i7, jal_c, jal_c, jin_nI (by omega) (by omega), if_pos (show (true && (true && jal [])) = true from rfl), jlw_e, nI_clamp (by omega)]
        refine col 4 (by omega) ?_
        unfold vcl
        rw [← hkl, eone, if_pos rfl]
theorem m_vis224 (H : RA z0 3 A c K) {l s : Nat} {d : Int32} (h8 : c 8 < 100) : ∀ (m k f : Nat) (u : jW), k + m = c 5 → m < f → Mvs u v A c l s (c 3) → f_Model_visit_h224 f (nI l) (nI s) (nI (11280 + 12 * c 8)) d (lsl A (nI s) d k) (nI k) u = (if lsl A (nI s) d (c 5) < 0 then f_Model_visit_j315 (nI l) (nI (11280 + 12 * c 8)) (lsl A (nI s) d (c 5)) (-1) (nI (11280 + 12 * c 8) + 8) u else Option.bind (f_Model_isWhole (lsl A (nI s) d (c 5)) d u) fun q14 => if q14.1 = 0 then f_Model_visit_j315 (nI l) (nI (11280 + 12 * c 8)) (lsl A (nI s) d (c 5)) 0 (nI (11280 + 12 * c 8) + 8) q14.2 else f_Model_visit_j315 (nI l) (nI (11280 + 12 * c 8)) (lsl A (nI s) d (c 5)) 1 (nI (11280 + 12 * c 8) + 8) q14.2) := by
  have l5 := l_5 H
  intro m
  induction m with
  | zero =>
    intro k f u hk hf hu
    obtain ⟨f, rfl⟩ : ∃ j, f = j + 1 := ⟨f - 1, by omega⟩
    have ek : k = c 5 := by omega
    subst ek
    rw [f_Model_visit_h224, if_pos (by decide), jk_5, hu.1, mra_A (by omega), h_5 H, if_neg (nI_nlt (by omega) (by omega))]
  | succ m ih =>
    intro k f u hk hf hu
    obtain ⟨f, rfl⟩ : ∃ j, f = j + 1 := ⟨f - 1, by omega⟩
    have e5 : u.1 94 5 = nI (c 5) := by rw [hu.1, mra_A (by omega)]; exact h_5 H
    have k0 : u.1 94 (1520 + 4 * k) = A (1520 + 4 * k) := by rw [hu.1, mra_A (by omega)]
    have k1 : u.1 94 (1520 + 4 * k + 1) = A (1520 + 4 * k + 1) := by rw [hu.1, mra_A (by omega)]
    have i0 : (1520 + 4 * nI k : Int32) = nI (1520 + 4 * k) := by rw [im_4, ia_1520]
    rw [f_Model_visit_h224, if_pos (by decide), jk_5, e5, if_pos (nI_lt (by omega) (by omega)), i0, ip_1, ip_1, jal_c, jal_c, jin_nI (by omega) (by omega), jin_nI (by omega) (by omega), if_pos (show (true && jal []) = true from rfl), if_pos (show (true && jal []) = true from rfl), nI_clamp (by omega), nI_clamp (by omega), k0, k1]
    have ih' := ih (k + 1) f u (by omega) (by omega) hu
    rw [lsl] at ih'
    by_cases q1 : A (1520 + 4 * k) = nI s
    · rw [if_pos q1]
      by_cases q2 : A (1520 + 4 * k + 1) ≤ d
      · rw [if_pos ⟨q1, q2⟩] at ih'
        rw [if_pos q2]; exact ih'
      · rw [if_neg (fun z => q2 z.2)] at ih'
        rw [if_neg q2]; exact ih'
    · rw [if_neg (fun z => q1 z.1)] at ih'
      rw [if_neg q1]; exact ih'
/-- all of a visit but its end -/
theorem m_vis (H : RA z0 3 (v.1 94) c K) {l s : Nat} (h8 : c 8 < 100) (hs : s < c 1) (h0 : 1 ≤ c 0) : ∃ u, f_Model_visit_h108 jfu (nI l) (nI s) (nI (11280 + 12 * c 8)) (nI (c 0) - 1) 3 (jup (jup (jup v.1 94 (11280 + 12 * c 8) (nI l)) 94 (11280 + 12 * c 8 + 1) (nI s)) 94 (11280 + 12 * c 8 + 2) (nI (c 0)), v.2) = f_Model_visit_j315 (nI l) (nI (11280 + 12 * c 8)) (vsl (v.1 94) c s) (vsw (v.1 94) c s) (nI (11280 + 12 * c 8 + 8)) u ∧ Mvs u v (v.1 94) c l s (c 3) := by
  have l3 := l_3 H
  have l4 := l_4 H
  have l5 := l_5 H
  obtain ⟨u0, a1, a2⟩ := m_vis108 (A := v.1 94) (v := v) (l := l) (s := s) h8 (d := nI (c 0) - 1) 5 0 jfu (jup (jup (jup v.1 94 (11280 + 12 * c 8) (nI l)) 94 (11280 + 12 * c 8 + 1) (nI s)) 94 (11280 + 12 * c 8 + 2) (nI (c 0)), v.2) rfl (by unfold jfu; omega) (fun i => by
    show jup (jup (jup v.1 94 (11280 + 12 * c 8) (nI l)) 94 (11280 + 12 * c 8 + 1) (nI s)) 94 (11280 + 12 * c 8 + 2) (nI (c 0)) 94 i = _
    rw [jup_ap, jup_ap, jup_ap]
    unfold mra
    by_cases q2 : i = 11280 + 12 * c 8 + 2
    · rw [if_pos ⟨rfl, q2⟩, if_neg (by omega), if_neg (by omega), if_neg (by omega), if_pos q2]
    · rw [if_neg (fun z => q2 z.2)]
      by_cases q1 : i = 11280 + 12 * c 8 + 1
      · rw [if_pos ⟨rfl, q1⟩, if_neg (by omega), if_neg (by omega), if_pos q1]
      · rw [if_neg (fun z => q1 z.2)]
        by_cases q0 : i = 11280 + 12 * c 8
        · rw [if_pos ⟨rfl, q0⟩, if_neg (by omega), if_pos q0]
        · rw [if_neg (fun z => q0 z.2)]
          by_cases q : 11280 + 12 * c 8 + 3 ≤ i ∧ i < 11280 + 12 * c 8 + 8
          · rw [if_pos (by omega)]
          · rw [if_neg (by omega), if_neg q0, if_neg q1, if_neg q2, if_neg q]) (fun b q => by dsimp only; rw [jup_fn q, jup_fn q, jup_fn q])
  obtain ⟨u1, b1, b2⟩ := m_vis134 (v := v) H (l := l) h8 hs (c 3) 0 jfu u0 (by omega) (by unfold jfu; omega) a2
  refine ⟨u1, ?_, b2⟩
  have a1' : f_Model_visit_h108 jfu (nI l) (nI s) (nI (11280 + 12 * c 8)) (nI (c 0) - 1) 3 _ = _ := a1
  have b1' : f_Model_visit_h134 jfu (nI l) (nI s) (nI (11280 + 12 * c 8)) (nI (c 0) - 1) 0 u0 = _ := b1
  have c1 := m_vis224 H (d := nI (c 0) - 1) h8 (c 5) 0 jfu u1 (by omega) (by unfold jfu; omega) b2
  have c1' : f_Model_visit_h224 jfu (nI l) (nI s) (nI (11280 + 12 * c 8)) (nI (c 0) - 1) (-1) 0 u1 = _ := c1
  rw [a1', b1', c1', ip_8]
  show (if vsl (v.1 94) c s < 0 then f_Model_visit_j315 _ _ (vsl (v.1 94) c s) _ _ u1 else Option.bind (f_Model_isWhole (vsl (v.1 94) c s) _ u1) _) = _
  rcases vsl_c (v.1 94) c s with e | ⟨k, k1, k2, k3⟩
  · rw [e, if_pos (by decide)]
    unfold vsw
    rw [e, if_pos rfl]
  · have g1 := sdy_e H k1
    have l0 := l_0 H
    have ew := m_whole (w := u1) (d := nI (c 0) - 1) (nm := c 4) (i := k) (p := sdy (v.1 94) k) (by rw [b2.1, mra_A (by omega)]; exact h_4 H) l4 (by omega) (by rw [b2.1, mra_A (by omega)]; exact g1.1) (by omega)
    rw [b2.1, mra_A (i := 1520 + 4 * k) (by omega), k3, brk_cg (A := v.1 94) (fun i h1 h2 => mra_A (by omega)) (c 4) 0 (by omega)] at ew
    unfold vsw
    rw [k2, if_neg (nI_pos (by omega)), ew, ob, if_neg (nI_ne_m1 (by omega)), nI_clamp (by omega), show lsl (v.1 94) (nI s) (nI (c 0) - 1) (c 5) = nI k from k2]
    dsimp only
    cases brk (v.1 94) (nI s) (sdy (v.1 94) k) (nI (c 0) - 1) (c 4) 0 with
    | true => rw [show bz (!true) = 0 from rfl, if_pos rfl]
    | false => rw [show bz (!false) = 1 from rfl, if_neg one_ne]

set_option maxHeartbeats 8000000 in
theorem q_visit (h : Inv w c ci K) (hK : K < 512) (x : Int32) (y : Int32) : Cal w (K + 1) (f_Count_visit x y) (f_Model_visit x y) := by
  have H := h.1
  have lK := l_K H
  have l0 := l_0 H
  have l1 := l_1 H
  have l2 := l_2 H
  have l3 := l_3 H
  have l4 := l_4 H
  have l5 := l_5 H
  have l6 := l_6 H
  have l7 := l_7 H
  have l8 := l_8 H
  have l9 := l_9 H
  have l10 := l_10 H
  have l11 := l_11 H
  have l12 := l_12 H
  have l13 := l_13 H
  by_cases t0 : ¬ x < 0 ∧ x ≤ 1
  rotate_left
  · refine Cal_f (x := -1) h hK ?_ ?_
    · rw [f_Count_visit, f_Count_isAbroad]
      rw [c_isLand, ob]
      dsimp only
      rw [b2_n t0, if_pos rfl, ob, if_pos rfl]
    · rw [f_Model_visit]
      rw [m_isIn, ob]
      dsimp only
      rw [b2_n t0, if_pos rfl]
  obtain ⟨l, hl, rfl⟩ := rngle (n := 1) (by omega) t0
  by_cases t1 : ¬ y < 0 ∧ y < nI (c 1)
  rotate_left
  · refine Cal_f (x := -1) h hK ?_ ?_
    · rw [f_Count_visit, f_Count_isAbroad]
      rw [c_isLand, ob]
      dsimp only
      rw [b2_p t0, if_neg one_ne]
      rw [s_si H, ob]
      dsimp only
      rw [b2_n t1, if_pos rfl, ob, if_pos rfl]
    · rw [f_Model_visit]
      rw [m_isIn, ob]
      dsimp only
      rw [b2_p t0, if_neg one_ne]
      rw [mi_site H, ob]
      dsimp only
      rw [b2_n t1, if_pos rfl]
  obtain ⟨s, hs, rfl⟩ := rng (by omega) t1
  by_cases t2 : w.1 94 (40 + 8 * s) = nI l
  · refine Cal_f (x := -1) h hK ?_ ?_
    · rw [f_Count_visit, f_Count_isAbroad]
      rw [c_isLand, ob]
      dsimp only
      rw [b2_p t0, if_neg one_ne]
      rw [s_si H, ob]
      dsimp only
      rw [b2_p t1, if_neg one_ne]
      rw [a_si0 H hs, ob]
      dsimp only
      rw [if_pos t2, ob, if_pos rfl]
    · rw [f_Model_visit]
      rw [m_isIn, ob]
      dsimp only
      rw [b2_p t0, if_neg one_ne]
      rw [mi_site H, ob]
      dsimp only
      rw [b2_p t1, if_neg one_ne]
      rw [ms_0 (by omega), ob]
      dsimp only
      rw [if_pos t2]
  by_cases t3 : nI (c 0) = 0
  · refine Cal_f (x := -1) h hK ?_ ?_
    · rw [f_Count_visit, f_Count_isAbroad]
      rw [c_isLand, ob]
      dsimp only
      rw [b2_p t0, if_neg one_ne]
      rw [s_si H, ob]
      dsimp only
      rw [b2_p t1, if_neg one_ne]
      rw [a_si0 H hs, ob]
      dsimp only
      rw [if_neg t2, ob, if_neg one_ne]
      rw [rs_0 H]
      rw [if_pos t3]
    · rw [f_Model_visit]
      rw [m_isIn, ob]
      dsimp only
      rw [b2_p t0, if_neg one_ne]
      rw [mi_site H, ob]
      dsimp only
      rw [b2_p t1, if_neg one_ne]
      rw [ms_0 (by omega), ob]
      dsimp only
      rw [if_neg t2]
      rw [if_pos (by decide), jk_0, h_0 H]
      rw [if_pos t3]
  by_cases t4 : c 8 = 100
  · refine Cal_f (x := -1) h hK ?_ ?_
    · rw [f_Count_visit, f_Count_isAbroad]
      rw [c_isLand, ob]
      dsimp only
      rw [b2_p t0, if_neg one_ne]
      rw [s_si H, ob]
      dsimp only
      rw [b2_p t1, if_neg one_ne]
      rw [a_si0 H hs, ob]
      dsimp only
      rw [if_neg t2, ob, if_neg one_ne]
      rw [rs_0 H]
      rw [if_neg t3]
      rw [u_vi H, ob]
      dsimp only
      rw [b2_p t4, if_neg one_ne]
    · rw [f_Model_visit]
      rw [m_isIn, ob]
      dsimp only
      rw [b2_p t0, if_neg one_ne]
      rw [mi_site H, ob]
      dsimp only
      rw [b2_p t1, if_neg one_ne]
      rw [ms_0 (by omega), ob]
      dsimp only
      rw [if_neg t2]
      rw [if_pos (by decide), jk_0, h_0 H]
      rw [if_neg t3]
      rw [if_pos (by decide), jk_8, h_8 H]
      rw [if_pos (show nI (c 8) = 100 by rw [t4]; rfl)]
  have h0 : 1 ≤ c 0 := by
    by_cases z : c 0 = 0
    · exact absurd (by rw [z]; rfl) t3
    · omega
  have h8 : c 8 < 100 := by omega
  obtain ⟨u1, e1, a1, J1⟩ := ap_open (j_vi H) h8 0
  obtain ⟨u2, e2, a2, J2⟩ := ap_put a1 J1 (j := 6) (by omega) (y := 6) rfl (nI (c 0))
  obtain ⟨u3, e3, a3, J3⟩ := ap_put a2 J2 (j := 7) (by omega) (y := 7) rfl (nI l)
  obtain ⟨u4, e4, a4, J4⟩ := ap_put a3 J3 (j := 8) (by omega) (y := 8) rfl (nI s)
  have V4 : Vst u4 w (w.1 94) c l s 0 := by
    refine ⟨J4, fun j hj => ?_, fun b j _ q => a4.2.2 b j q⟩
    rw [a4.2.1 j hj]
    rcases (show j = 0 ∨ j = 1 ∨ j = 2 ∨ j = 3 ∨ j = 4 ∨ j = 5 ∨ j = 6 ∨ j = 7 ∨ j = 8 ∨ j = 9 by omega) with z | z | z | z | z | z | z | z | z | z <;> subst z <;> rfl
  have G4 := Vst_RA H h8 hl hs h0 (Nat.zero_le _) V4
  have z1 : u1.1 3 0 = nI (c 0) := (a1.2.2 3 0 (by omega)).trans (rs_0 H)
  have z4 : u4.1 3 0 = nI (c 0) := (a4.2.2 3 0 (by omega)).trans (rs_0 H)
  have eT : f_Treaty_textFor 4 (nI (c 0)) u4 = some (oi (tf (w.1 94) 4 (nI (c 0)) (c 6)), u4) := by
    have q := c_textFor (k := 4) (d := nI (c 0)) G4 (by omega)
    rw [show (cup c 8 (c 8 + 1)) 6 = c 6 from rfl, tf_cgH H vra_At] at q
    exact q
  have eK : f_Rows_at 6 (nI s) 1 u4 = some (w.1 94 (40 + 8 * s + 1), u4) := si_fr (fun b hb => Ap_fn a4 (by omega) (by omega)) (a_si1 H hs)
  obtain ⟨u5, e5, V5⟩ := c_vis_h H h8 hl hs h0 (c 3) 0 jfu u4 (by omega) (by unfold jfu; omega) V4
  have eL : f_State_lookAround (nI (c 8)) (nI s) (nI (c 0)) u4 = some u5 := by rw [f_State_lookAround, eT, ob]; dsimp only; rw [eK, ob]; exact e5
  have z5 : u5.1 3 0 = nI (c 0) := (V5.2.2 3 0 (by omega) (by omega)).trans (rs_0 H)
  obtain ⟨v2, e6, J6, s5, s9, sr, sf⟩ := c_vseal H h8 hl hs h0 V5
  have z6 : v2.1 3 0 = nI (c 0) := (sf 3 0 (by omega) (by omega)).trans (rs_0 H)
  have JA : JR v2 32 5 512 (c 11) := JR_eq (j_ac H) (funext fun j => sf 32 j (by omega) (by omega))
  obtain ⟨v3, e7, a7⟩ := c_act JA (by omega) z6 4 (nI l) (nI s) (nI (c 8))
  have eC : f_Count_visit (nI l) (nI s) w = some (nI (c 8), v3) := by
    rw [f_Count_visit, f_Count_isAbroad, c_isLand, ob]
    dsimp only
    rw [b2_p t0, if_neg one_ne, s_si H, ob]
    dsimp only
    rw [b2_p t1, if_neg one_ne, a_si0 H hs, ob]
    dsimp only
    rw [if_neg t2, ob, if_neg one_ne, rs_0 H, if_neg t3, u_vi H, ob]
    dsimp only
    rw [b2_n t4, if_pos rfl, e1, ob]
    dsimp only
    rw [z1, e2, ob, e3, ob, e4, ob, z4, eL, ob, z5, e6, ob, e7, ob]
  have e94 : v3.1 94 = w.1 94 := (Ap_fn a7 (by omega) (by omega)).trans (funext fun j => sf 94 j (by omega) (by omega))
  have H' : RA w 3 (v3.1 94) c K := by rw [e94]; exact H
  obtain ⟨u9, m1, M9⟩ := m_vis (v := v3) (l := l) H' h8 hs h0
  rw [e94] at m1 M9
  have x94 : ∀ i, ¬ (11280 + 12 * c 8 ≤ i ∧ i < 11280 + 12 * c 8 + 8) → u9.1 94 i = w.1 94 i := fun i q => by rw [M9.1]; exact mra_A q
  obtain ⟨W, hW⟩ : ∃ W : jW, W = ((jup (jup (jup (jup (jup (jup (jup (jup (jup u9.1 94 (11280 + 12 * c 8 + 8) (vsw (w.1 94) c s)) 94 (11280 + 12 * c 8 + 9) (vsl (w.1 94) c s)) 94 (13080 + 8 * c 11) (4)) 94 (13080 + 8 * c 11 + 1) (nI (c 0))) 94 (13080 + 8 * c 11 + 2) (nI l)) 94 (13080 + 8 * c 11 + 3) (nI (c 8))) 94 (13080 + 8 * c 11 + 4) (0)) 94 (11) (nI (c 11 + 1))) 94 (8) (nI (c 8 + 1))), u9.2) := ⟨_, rfl⟩
  have f94 : ∀ b, b ≠ 94 → W.1 b = u9.1 b := fun b hb => by rw [hW]; dsimp only; rw [jup_fn hb, jup_fn hb, jup_fn hb, jup_fn hb, jup_fn hb, jup_fn hb, jup_fn hb, jup_fn hb, jup_fn hb]
  have g0 : W.1 94 (11280 + 12 * c 8 + 8) = vsw (w.1 94) c s := by rw [hW]; simp (disch := omega) only [jup_k, jup_eq]
  have g1 : W.1 94 (11280 + 12 * c 8 + 9) = vsl (w.1 94) c s := by rw [hW]; simp (disch := omega) only [jup_k, jup_eq]
  have g2 : W.1 94 (13080 + 8 * c 11) = 4 := by rw [hW]; simp (disch := omega) only [jup_k, jup_eq]
  have g3 : W.1 94 (13080 + 8 * c 11 + 1) = nI (c 0) := by rw [hW]; simp (disch := omega) only [jup_k, jup_eq]
  have g4 : W.1 94 (13080 + 8 * c 11 + 2) = nI l := by rw [hW]; simp (disch := omega) only [jup_k, jup_eq]
  have g5 : W.1 94 (13080 + 8 * c 11 + 3) = nI (c 8) := by rw [hW]; simp (disch := omega) only [jup_k, jup_eq]
  have g6 : W.1 94 (13080 + 8 * c 11 + 4) = 0 := by rw [hW]; simp (disch := omega) only [jup_k, jup_eq]
  have g7 : W.1 94 (11) = nI (c 11 + 1) := by rw [hW]; simp (disch := omega) only [jup_k, jup_eq]
  have g8 : W.1 94 (8) = nI (c 8 + 1) := by rw [hW]; simp (disch := omega) only [jup_k, jup_eq]
  have eN : f_Model_noted 4 (nI l) (nI (c 8)) 0 ((jup (jup u9.1 94 (11280 + 12 * c 8 + 8) (vsw (w.1 94) c s)) 94 (11280 + 12 * c 8 + 9) (vsl (w.1 94) c s)), u9.2) = some (ntw ((jup (jup u9.1 94 (11280 + 12 * c 8 + 8) (vsw (w.1 94) c s)) 94 (11280 + 12 * c 8 + 9) (vsl (w.1 94) c s)), u9.2) (c 11) (nI (c 0)) 4 (nI l) (nI (c 8)) 0) := m_noted (by simp (disch := omega) only [jup_k, x94, h_11 H]) (by omega) (by simp (disch := omega) only [jup_k, x94, h_0 H]) _ _ _ _
  have q8 : u9.1 94 8 = nI (c 8) := (x94 8 (by omega)).trans (h_8 H)
  have mJ : f_Model_visit_j315 (nI l) (nI (11280 + 12 * c 8)) (vsl (w.1 94) c s) (vsw (w.1 94) c s) (nI (11280 + 12 * c 8 + 8)) u9 = some (nI (c 8), W) := by
    rw [hW, f_Model_visit_j315]
    simp (disch := omega) only [↓jlw_e, ↓reduceIte, ia_1, ia_2, ia_3, ia_4, ia_5, ia_6, ia_7, ia_8, ia_9, ia_20, ia_40, ia_120, ia_140, ia_240, ia_720, ia_1520, ia_1680, ia_9680, ia_11280, ia_12480, ia_12880, ia_13080, ia_20760, ia_20880, ip_0, ip_1, ip_2, ip_3, ip_4, ip_5, ip_6, ip_7, ip_8, ip_9, ip_140, im_2, im_4, im_8, im_12, im_800, nI_clamp, jin_nI, jal_c, jal_n, Bool.and_true, if_true, ob, jlw_e, jk_0, jk_1, jk_2, jk_3, jk_4, jk_5, jk_6, jk_7, jk_8, jk_9, jk_10, jk_11, jk_12, jk_13, jk_14, jk_15, jk_16, jk_17, jk_18, jk_19, jg_0, jg_1, jg_2, jg_3, jg_4, jg_5, jg_6, jg_7, jg_8, jg_9, jg_10, jg_11, jg_12, jg_13, jg_14, jg_15, jg_16, jg_17, jg_18, jg_19, q8, nI_pred, jup_eq, jup_k, jup_ne, eN, ob, ntw]
  have eM : f_Model_visit (nI l) (nI s) v3 = some (nI (c 8), W) := by
    have i0 : (11280 + 12 * nI (c 8) : Int32) = nI (11280 + 12 * c 8) := by rw [im_12, ia_11280]
    rw [f_Model_visit, m_isIn, ob]
    dsimp only
    rw [b2_p t0, if_neg one_ne, mi_site H', ob]
    dsimp only
    rw [b2_p t1, if_neg one_ne, ms_0 (by omega), ob]
    dsimp only
    rw [e94, if_neg t2, if_pos (by decide), jk_0, h_0 H, if_neg t3, if_pos (by decide), jk_8, h_8 H, if_neg (show ¬ nI (c 8) = 100 from fun z => t4 ((nI_eq (b := 100) (by omega) (by omega)).mp z)), i0]
    simp (disch := omega) only [↓jlw_e, ↓reduceIte, jal_c, jal_n, Bool.and_true, jin_nI, jg_0, jg_8, if_true, nI_clamp, ip_1, ip_2, e94, jup_k, h_0 H]
    rw [m1]; exact mJ
  obtain ⟨B, hB⟩ : ∃ B : Nat → Int32, B = fun k => if k = 11 ∨ k = 13080 + 8 * c 11 ∨ k = 13080 + 8 * c 11 + 1 ∨ k = 13080 + 8 * c 11 + 2 ∨ k = 13080 + 8 * c 11 + 3 ∨ k = 13080 + 8 * c 11 + 4 then w.1 94 k else W.1 94 k := ⟨_, rfl⟩
  have b1 : ∀ k, ¬ (k = 11 ∨ k = 13080 + 8 * c 11 ∨ k = 13080 + 8 * c 11 + 1 ∨ k = 13080 + 8 * c 11 + 2 ∨ k = 13080 + 8 * c 11 + 3 ∨ k = 13080 + 8 * c 11 + 4) → B k = W.1 94 k := fun k q => by rw [hB]; exact if_neg q
  have wx : ∀ k, ¬ (k = 8 ∨ k = 11280 + 12 * c 8 + 8 ∨ k = 11280 + 12 * c 8 + 9 ∨ k = 11 ∨ k = 13080 + 8 * c 11 ∨ k = 13080 + 8 * c 11 + 1 ∨ k = 13080 + 8 * c 11 + 2 ∨ k = 13080 + 8 * c 11 + 3 ∨ k = 13080 + 8 * c 11 + 4) → W.1 94 k = u9.1 94 k := fun k hE => by rw [hW]; dsimp only; rw [jup_k (by omega), jup_k (by omega), jup_k (by omega), jup_k (by omega), jup_k (by omega), jup_k (by omega), jup_k (by omega), jup_k (by omega), jup_k (by omega)]
  have fB : ∀ k, k < 21000 → ¬ (k = 8 ∨ k = 11280 + 12 * c 8 ∨ k = 11280 + 12 * c 8 + 1 ∨ k = 11280 + 12 * c 8 + 2 ∨ k = 11280 + 12 * c 8 + 3 ∨ k = 11280 + 12 * c 8 + 4 ∨ k = 11280 + 12 * c 8 + 5 ∨ k = 11280 + 12 * c 8 + 6 ∨ k = 11280 + 12 * c 8 + 7 ∨ k = 11280 + 12 * c 8 + 8 ∨ k = 11280 + 12 * c 8 + 9) → B k = w.1 94 k := fun k _ hE => by
    rw [hB]; dsimp only
    by_cases q : k = 11 ∨ k = 13080 + 8 * c 11 ∨ k = 13080 + 8 * c 11 + 1 ∨ k = 13080 + 8 * c 11 + 2 ∨ k = 13080 + 8 * c 11 + 3 ∨ k = 13080 + 8 * c 11 + 4
    · rw [if_pos q]
    · rw [if_neg q, wx k (by omega)]; exact x94 k (by omega)
  have k0 : B (11280 + 12 * c 8) = nI l := by rw [b1 _ (by omega), wx _ (by omega), M9.1]; unfold mra; rw [if_pos rfl]
  have k1 : B (11280 + 12 * c 8 + 1) = nI s := by rw [b1 _ (by omega), wx _ (by omega), M9.1]; unfold mra; rw [if_neg (by omega), if_pos rfl]
  have k2 : B (11280 + 12 * c 8 + 2) = nI (c 0) := by rw [b1 _ (by omega), wx _ (by omega), M9.1]; unfold mra; rw [if_neg (by omega), if_neg (by omega), if_pos rfl]
  have k3 : ∀ j, j < 5 → B (11280 + 12 * c 8 + 3 + j) = nI (vct (w.1 94) c s j (c 3)) := fun j hj => by
    rw [b1 _ (by omega), wx _ (by omega), M9.1]
    unfold mra
    rw [if_neg (by omega), if_neg (by omega), if_neg (by omega), if_pos (by omega), show 11280 + 12 * c 8 + 3 + j - (11280 + 12 * c 8 + 3) = j by omega]
  have k8 : B (11280 + 12 * c 8 + 8) = vsw (w.1 94) c s := (b1 _ (by omega)).trans g0
  have k9 : B (11280 + 12 * c 8 + 9) = vsl (w.1 94) c s := (b1 _ (by omega)).trans g1
  have kc : B 8 = nI (c 8 + 1) := (b1 _ (by omega)).trans g8
  obtain ⟨y2, hy⟩ : ∃ y2 : jW, y2 = (fun b j => if b = 23 then w.1 b j else v2.1 b j, v2.2) := ⟨_, rfl⟩
  have yn : ∀ b, b ≠ 23 → y2.1 b = v2.1 b := fun b q => by rw [hy]; exact funext fun j => if_neg q
  have hw1 : ∀ b j, 3 ≤ b → b < 38 → ¬ (b = 26 ∧ j = 2 ∨ b = 27 ∧ c 8 * 10 ≤ j ∧ j < c 8 * 10 + 10) → y2.1 b j = w.1 b j := fun b j _ _ q => by
    by_cases z : b = 23
    · rw [hy]; exact if_pos z
    · rw [yn b z]; exact sf b j z q
  have hv1 : ∀ j, j < 10 → cmV j < 12 → y2.1 27 (c 8 * 10 + j) = B (11280 + 12 * c 8 + cmV j) := fun j hj hc => by
    rw [yn 27 (by omega)]
    rcases (show j < 5 ∨ j = 5 ∨ j = 6 ∨ j = 7 ∨ j = 8 ∨ j = 9 by omega) with z | z | z | z | z | z
    · rw [sr j (by omega) (by omega), show cmV j = j + 3 by unfold cmV; rw [if_pos (by omega)], vrw, if_pos z, show 11280 + 12 * c 8 + (j + 3) = 11280 + 12 * c 8 + 3 + j by omega, k3 j z]
    · subst z; exact s5.trans k8.symm
    · subst z; exact (sr 6 (by omega) (by omega)).trans k2.symm
    · subst z; exact (sr 7 (by omega) (by omega)).trans k0.symm
    · subst z; exact (sr 8 (by omega) (by omega)).trans k1.symm
    · subst z; exact absurd hc (by decide)
  have hsw : vsw (w.1 94) c s = -1 ∨ vb (vsw (w.1 94) c s) 0 1 := by
    unfold vsw
    split
    · exact Or.inl rfl
    · cases brk (w.1 94) (nI s) (sdy (w.1 94) (vsl (w.1 94) c s).toNatClampNeg) (nI (c 0) - 1) (c 4) 0
      · exact Or.inr ⟨1, rfl, by omega, by omega⟩
      · exact Or.inr ⟨0, rfl, by omega, by omega⟩
  have Hy : RA y2 3 B (cup c 8 (c 8 + 1)) K := P_vis H hs h0 h8 (by rw [yn 26 (by omega)]; exact J6.2.1) kc hv1 k1 k2 (by rw [k0]; exact vb_k rfl (Nat.zero_le _) hl) (fun j hj => by rw [k3 j hj]; exact vb_k rfl (Nat.zero_le _) (by have := vct_le (A := w.1 94) (c := c) (s := s) (j := j) (c 3); omega)) (by rw [k8]; exact hsw) (fun z => by
    rw [k8] at z
    rcases vsl_c (w.1 94) c s with e | ⟨i, i1, i2, i3⟩
    · unfold vsw at z
      rw [e, if_pos rfl] at z
      exact absurd z (by decide)
    · exact ⟨i, i1, k9.trans i2, by rw [yn 27 (by omega)]; exact s9 i i2 i1⟩) hw1 fB
  have H1 : RA v2 3 B (cup c 8 (c 8 + 1)) K := RA_fr Hy (fun b q1 q2 q3 => (yn b q3).symm)
  have fz : ∀ b, b ≠ 94 → b ≠ 99 → b ≠ 100 → W.1 b = v3.1 b := fun b q1 q2 q3 => (f94 b q1).trans (M9.2 b q1 q2 q3)
  have hw2 : ∀ b j, 3 ≤ b → b < 38 → ¬ (b = 32 ∧ j = 2 ∨ b = 33 ∧ c 11 * 5 ≤ j ∧ j < c 11 * 5 + 5) → W.1 b j = v2.1 b j := fun b j q1 q2 q3 => by
    rw [fz b (by omega) (by omega) (by omega)]; exact a7.2.2 b j q3
  have hv2 : ∀ j, j < 5 → cmA j < 8 → W.1 33 (c 11 * 5 + j) = W.1 94 (13080 + 8 * c 11 + cmA j) := fun j hj hc => by
    rw [fz 33 (by omega) (by omega) (by omega), a7.2.1 j hj]
    rcases (show j = 0 ∨ j = 1 ∨ j = 2 ∨ j = 3 ∨ j = 4 by omega) with z | z | z | z | z <;> subst z
    · exact g2.symm
    · exact g3.symm
    · exact g4.symm
    · exact absurd hc (by decide)
    · exact absurd hc (by decide)
  have hA2 : ∀ k, k < 21000 → ¬ (k = 11 ∨ k = 13080 + 8 * c 11 ∨ k = 13080 + 8 * c 11 + 1 ∨ k = 13080 + 8 * c 11 + 2 ∨ k = 13080 + 8 * c 11 + 3 ∨ k = 13080 + 8 * c 11 + 4) → W.1 94 k = B k := fun k _ q => (b1 k q).symm
  have ha2 : W.1 32 2 = nI (c 11 + 1) := by rw [fz 32 (by omega) (by omega) (by omega)]; exact a7.1
  have hv3 : W.1 33 (c 11 * 5 + 3) = nI s := by rw [fz 33 (by omega) (by omega) (by omega), a7.2.1 3 (by omega)]; rfl
  have hv4 : W.1 33 (c 11 * 5 + 4) = nI (c 8) := by rw [fz 33 (by omega) (by omega) (by omega), a7.2.1 4 (by omega)]; rfl
  have HR := P_act (c := cup c 8 (c 8 + 1)) H1 hK (k := 4) (o := c 8) (by omega) (show c 8 < c 8 + 1 from Nat.lt_succ_self _) (show c 11 < 512 by omega) ha2 g7 hv2 g2 g3 (show vb (W.1 94 (13080 + 8 * c 11 + 2)) 0 1 by rw [g4]; exact vb_k rfl (Nat.zero_le _) hl) g5 (fun z => absurd z (by decide)) (hv3.trans (show nI s = B (11280 + 12 * c 8 + 1) from k1.symm)) (hv4.trans rfl) hw2 hA2
  have fy : ∀ b, 38 ≤ b → b ≠ 94 → b ≠ 99 → b ≠ 100 → W.1 b = w.1 b := fun b q1 q2 q3 q4 => by
    rw [fz b q2 q3 q4, Ap_fn a7 (by omega) (by omega)]; exact funext fun j => sf b j (by omega) (by omega)
  exact ⟨_, v3, W, _, ci, eC, eM, Inv_of2 h (Nat.le_succ _) (fun b q1 q2 q3 => fy b q1 q2 (fun z => by rw [z] at q3; exact absurd q3 (by decide)) (fun z => by rw [z] at q3; exact absurd q3 (by decide))) (fun j _ => congrFun (fy 93 (by omega) (by omega) (by omega) (by omega)) j) HR⟩

end Q10

/-! LAYER B: which things count -/
def sh (A : Nat → Int32) (t k th : Nat) (kl : Int32) : Nat → Nat → Bool
  | 0, _ => false
  | m + 1, i => (kcl A t k i && hld A t (1680 + 800 * t + 2 + 8 * i) th kl) || sh A t k th kl m (i + 1)
def one (A : Nat → Int32) (k th : Nat) (kl : Int32) (wo : Bool) : Option Nat → Bool
  | none => wo
  | some t => sh A t k th kl (ncl A t) 0
theorem evs_c {e e' : Nat → Int32} (h : ∀ j, j < 5 → e j = e' j) : ∀ (L : List (Nat × Nat × Nat)) (st : List Bool) (d r : Nat), wfd L d = some r → evs e L st = evs e' L st := by
  have ho : ∀ x, x < 10005 → opv e x = opv e' x := fun x hx => by
    unfold opv
    by_cases q : x < 10000
    · rw [if_pos q, if_pos q]
    · rw [if_neg q, if_neg q, h _ (by omega)]
  intro L
  induction L with
  | nil => intro st d r _; rfl
  | cons t L ih =>
    intro st d r hw
    rw [wfd] at hw
    rw [evs, evs]
    by_cases k6 : t.1 < 6
    · rw [if_pos k6] at hw ⊢
      rw [if_pos k6]
      by_cases k7 : d < 60 ∧ t.2.1 < 10005 ∧ t.2.2 < 10005
      · rw [if_pos k7] at hw
        rw [ho _ k7.2.1, ho _ k7.2.2]
        exact ih _ _ r hw
      · rw [if_neg k7] at hw; exact absurd hw (by simp)
    · rw [if_neg k6] at hw ⊢
      rw [if_neg k6]
      by_cases k6' : t.1 = 6
      · rw [if_pos k6'] at hw ⊢
        rw [if_pos k6']
        split at hw
        · exact ih _ _ r hw
        · exact absurd hw (by simp)
      · rw [if_neg k6'] at hw ⊢
        rw [if_neg k6']
        split at hw
        · split at hw
          · exact ih _ _ r hw
          · exact absurd hw (by simp)
        · exact absurd hw (by simp)
section CO
variable {w v : jW} {A : Nat → Int32} {c : Nat → Nat} {K : Nat} {d : Int32}
/-- the world when a thing is looked at -/
def lkw (w : jW) (A : Nat → Int32) (th : Nat) (kl : Int32) : jW := (fun b j => if b = 23 ∧ j < 5 then menv A th kl j else w.1 b j, w.2)
theorem lkw_ne {b th : Nat} {kl : Int32} (h : b ≠ 23) : (lkw w A th kl).1 b = w.1 b := funext fun j => if_neg (fun z => h z.1)
theorem lkw_Sq {th : Nat} {kl : Int32} : Sq (lkw w A th kl) w := ⟨fun b q => lkw_ne (fun z => by rw [z] at q; exact absurd q (by decide)), fun j _ => congrFun (lkw_ne (by decide)) j⟩
theorem c_look (H : RA w 3 A c K) {th : Nat} {kl : Int32} (ht : th < c 3) : f_Treaty_look 10 (nI th) kl w = some (lkw w A th kl) := by
  have up : ∀ (u : jW) (j : Nat) (x : Int32), RA u 3 A c K → RA (jup u.1 23 j x, u.2) 3 A c K := fun u j x h => RA_fr h (fun b h1 h2 h3 => jup_fn h3)
  have see : ∀ (u : jW) (j : Nat) (x : Int32), j < 5 → f_Treaty_see (nI (13 + j)) x u = some (jup u.1 23 j x, u.2) := fun u j x hj => by
    have e : (nI (13 + j) - 13 : Int32) = nI j := by rw [show (13 : Int32) = nI 13 from rfl, nI_sub (by omega), show 13 + j - 13 = j by omega]
    rw [f_Treaty_see, e, if_neg (nI_pos (by omega)), nI_rfl 5, if_pos (nI_lt hj (by omega)), jal_c, jin_nI (by omega) (by omega), nI_clamp (by omega)]
    rfl
  have s0 := fun u x => see u 0 x (by omega)
  have s1 := fun u x => see u 1 x (by omega)
  have s2 := fun u x => see u 2 x (by omega)
  have s3 := fun u x => see u 3 x (by omega)
  have s4 := fun u x => see u 4 x (by omega)
  rw [f_Treaty_look, a_th0 H ht, ob, show (13 : Int32) = nI (13 + 0) from rfl, s0, ob]
  have H1 := up w 0 (A (240 + 12 * th)) H
  rw [a_th1 H1 ht, ob, show (14 : Int32) = nI (13 + 1) from rfl, s1, ob]
  have H2 := up _ 1 (A (240 + 12 * th + 1)) H1
  rw [a_th2 H2 ht, ob, show (15 : Int32) = nI (13 + 2) from rfl, s2, ob]
  have H3 := up _ 2 (A (240 + 12 * th + 2)) H2
  rw [show (16 : Int32) = nI (13 + 3) from rfl, s3, ob]
  have H4 := up _ 3 kl H3
  rw [a_th3 H4 ht, ob, show (17 : Int32) = nI (13 + 4) from rfl, s4, ob]
  congr 1
  refine Prod.ext (funext fun b => funext fun j => ?_) rfl
  dsimp only [lkw]
  rw [jup_ap, jup_ap, jup_ap, jup_ap, jup_ap, menv]
  by_cases e : b = 23
  · by_cases e0 : j = 0
    · simp [e, e0]
    · by_cases e1 : j = 1
      · simp [e, e1]
      · by_cases e2 : j = 2
        · simp [e, e2]
        · by_cases e3 : j = 3
          · simp [e, e3]
          · by_cases e4 : j = 4
            · simp [e, e4]
            · rw [if_neg (by omega), if_neg (by omega), if_neg (by omega), if_neg (by omega), if_neg (by omega), if_neg (by omega)]
  · rw [if_neg (fun z => e z.1), if_neg (fun z => e z.1), if_neg (fun z => e z.1), if_neg (fun z => e z.1), if_neg (fun z => e z.1), if_neg (fun z => e z.1)]
theorem c_holds (H : RA v 3 A c K) {t n c0 k0 cs ks th i k : Nat} {kl : Int32} (hj : JR v 19 4 160 cs) (hj3 : JR v 21 1 3000 ks) (ht : t < 10) (hth : th < 40) (g : Rtx v 3 A t n c0 k0 cs ks) (hi : i < n) (hk : k = 0 ∨ k = 4) (hc : kcl A t k i = true) (he : ∀ j, j < 5 → v.1 23 j = menv A th kl j) : f_Treaty_holds (nI (c0 + i)) v = some (bz (hld A t (1680 + 800 * t + 2 + 8 * i) th kl), v) := by
  have hks := hj3.2.2.1
  have hcs := hj.2.2.1
  have g2 := g.2.1
  have g3 := g.2.2.1
  obtain ⟨s, e1, e2, e3, e4, e5, e6, e7, e8⟩ := g.2.2.2.2.2.2.2.2 i hi
  have hs := (nI_eq (by omega) (by omega)).mp (e1.symm.trans (of_decide_eq_true hc))
  obtain ⟨L, u, q1, q2, q3, q4, q5, q6, q7, q8, q9⟩ := e8 (by omega)
  have b1 : f_Rows_at 19 (nI (c0 + i)) 1 v = some (nI (k0 + u), v) := (cl_at (j := 1) hj (by omega) (by omega)).trans (congrArg (fun z => some (z, v)) q3)
  have b2' : f_Rows_at 19 (nI (c0 + i)) 2 v = some (nI (k0 + u + tln L), v) := (cl_at (j := 2) hj (by omega) (by omega)).trans (congrArg (fun z => some (z, v)) q4)
  rw [f_Treaty_holds, b2', ob]
  dsimp only
  rw [b1, ob]
  dsimp only
  rw [hld_e ht (by omega) hth q1 q2 q8 q7 q6, evl, ← evs_c he L [] 0 1 q7]
  have := len_tln L
  exact c_holds_h hj3 L (k0 + u) jfu 0 1 0 [] ⟨by simp, fun i hi => by rw [gb_0]; simp⟩ rfl q7 q5 (by omega) (by unfold jfu; omega)
theorem c_some_h (H : RA v 3 A c K) {t n c0 k0 cs ks th k : Nat} {kl : Int32} (hj : JR v 19 4 160 cs) (hj3 : JR v 21 1 3000 ks) (ht : t < c 6) (hth : th < 40) (g : Rtx v 3 A t n c0 k0 cs ks) (hk : k = 0 ∨ k = 4) (he : ∀ j, j < 5 → v.1 23 j = menv A th kl j) : ∀ (m i f : Nat), i + m = n → m < f → f_Treaty_someHolds_h10 f (nI t) (nI k) (nI (c0 + i)) v = some (bz (sh A t k th kl m i), v) := by
  have l6 := l_6 H
  have hcs := hj.2.2.1
  have g2 := g.2.1
  have g3' := g.2.2.1
  have a3 : f_Rows_at 17 (nI t) 3 v = some (nI (c0 + n), v) := (tx_at (j := 3) H ht (by omega)).trans (congrArg (fun z => some (z, v)) g.2.2.2.2.2.2.1)
  intro m
  induction m with
  | zero =>
    intro i f hi hf
    obtain ⟨f, rfl⟩ : ∃ j, f = j + 1 := ⟨f - 1, by omega⟩
    rw [f_Treaty_someHolds_h10, a3, ob]
    dsimp only
    rw [if_neg (nI_nlt (by omega) (by omega))]; rfl
  | succ m ih =>
    intro i f hi hf
    obtain ⟨f, rfl⟩ : ∃ j, f = j + 1 := ⟨f - 1, by omega⟩
    obtain ⟨s, e1, e2, e3, e4, -⟩ := g.2.2.2.2.2.2.2.2 i (by omega)
    have b0 : f_Rows_at 19 (nI (c0 + i)) 0 v = some (nI (s - 1), v) := (cl_at (j := 0) hj (by omega) (by omega)).trans (congrArg (fun z => some (z, v)) e4)
    rw [f_Treaty_someHolds_h10, a3, ob]
    dsimp only
    rw [if_pos (nI_lt (by omega) (by omega)), b0, ob, sh]
    dsimp only
    have ih' := ih (i + 1) f (by omega) (by omega)
    rw [ip_1, Nat.add_assoc c0 i 1]
    by_cases q : kcl A t k i = true
    · have hs := (nI_eq (by omega) (by omega)).mp (e1.symm.trans (of_decide_eq_true q))
      rw [if_pos (show nI (s - 1) = nI k by rw [show s - 1 = k by omega]), c_holds H hj hj3 (by omega) hth g (by omega) hk q he, ob, q]
      cases hld A t (1680 + 800 * t + 2 + 8 * i) th kl
      · dsimp only
        rw [if_pos bz_f]; exact ih'
      · dsimp only
        rw [if_neg (show ¬ bz true = 0 by decide)]; rfl
    · have hq : ¬ nI (s - 1) = nI k := fun z => q (by
        have := (nI_eq (by omega) (by omega)).mp z
        rw [kcl, e1, show s = k + 1 by omega]; exact decide_eq_true rfl)
      rw [if_neg hq, Bool.eq_false_iff.mpr q]; exact ih'
theorem c_some (H : RA v 3 A c K) {t k th : Nat} {kl : Int32} (ht : t < c 6) (hth : th < 40) (hk : k = 0 ∨ k = 4) (he : ∀ j, j < 5 → v.1 23 j = menv A th kl j) : f_Treaty_someHolds (nI t) (nI k) v = some (bz (sh A t k th kl (ncl A t) 0), v) := by
  obtain ⟨cs, ks, j1, j2, j3, j4, j5, j6⟩ := tx_un H
  obtain ⟨n, c0, k0, g⟩ := j6 t ht
  have a2 : f_Rows_at 17 (nI t) 2 v = some (nI c0, v) := (tx_at (j := 2) H ht (by omega)).trans (congrArg (fun z => some (z, v)) g.2.2.2.2.2.1)
  have g16 := g.2.1
  rw [f_Treaty_someHolds, a2, ob, ncl_e g]
  exact c_some_h H j2 j3 ht hth g hk he n 0 jfu (by omega) (by unfold jfu; omega)
theorem c_some_none (H : RA v 3 A c K) {x : Int32} : f_Treaty_someHolds (-1) x v = some (0, v) := by
  obtain ⟨cs, ks, j1, -⟩ := tx_un H
  rw [f_Treaty_someHolds, r_at_row j1 (Or.inl (by decide)), ob]
  dsimp only
  rw [show jfu = 29999 + 1 from rfl, f_Treaty_someHolds_h10, r_at_row j1 (Or.inl (by decide)), ob]
  dsimp only
  rw [if_neg (by decide)]
theorem m_one_h {z0 : jW} (H : RA z0 3 A c K) (hA : w.1 94 = A) {t n c0 k0 cs ks th k : Nat} {kl : Int32} (ht : t < c 6) (hth : th < 40) (g : Rtx z0 3 A t n c0 k0 cs ks) (hk : k = 0 ∨ k = 4) : ∀ (m i f : Nat) (v : jW), X9 v w → i + m = n → m < f → ∃ v', f_Model_isOne_h20 f (nI (k + 1)) (nI th) kl (nI t) (nI i) v = some (bz (sh A t k th kl m i), v') ∧ X9 v' w := by
  have l6 := l_6 H
  have g2 := g.2.1
  intro m
  induction m with
  | zero =>
    intro i f v hv hi hf
    obtain ⟨f, rfl⟩ : ∃ j, f = j + 1 := ⟨f - 1, by omega⟩
    have hA' : v.1 94 = A := (hv 94 (by decide) (by decide)).trans hA
    refine ⟨v, ?_, hv⟩
    rw [f_Model_isOne_h20, m_clausesOf (n := n) (by omega) (by rw [hA']; exact g.1), ob]
    dsimp only
    rw [if_neg (nI_nlt (by omega) (by omega))]; rfl
  | succ m ih =>
    intro i f v hv hi hf
    obtain ⟨f, rfl⟩ : ∃ j, f = j + 1 := ⟨f - 1, by omega⟩
    have hA' : v.1 94 = A := (hv 94 (by decide) (by decide)).trans hA
    have eq : v.1 94 (1680 + 800 * t + 2 + 8 * i) = A (1680 + 800 * t + 2 + 8 * i) := by rw [hA']
    rw [f_Model_isOne_h20, m_clausesOf (n := n) (by omega) (by rw [hA']; exact g.1), ob, sh]
    dsimp only
    rw [if_pos (nI_lt (by omega) (by omega)), m_clauseAt, ob]
    dsimp only
    rw [jal_c, jin_nI (by omega) (by omega), nI_clamp (by omega), eq, ip_1, if_pos (show (true && jal []) = true from rfl)]
    by_cases q : kcl A t k i = true
    · obtain ⟨s, e1, e2, e3, e4, e5, e6, e7, e8⟩ := g.2.2.2.2.2.2.2.2 i (by omega)
      have hs := (nI_eq (by omega) (by omega)).mp (e1.symm.trans (of_decide_eq_true q))
      obtain ⟨L, u, q1, q2, q3, q4, q5, q6, q7, q8, q9⟩ := e8 (by omega)
      obtain ⟨v1, r1, r2⟩ := m_isSo (v := v) (t := t) (q := 1680 + 800 * t + 2 + 8 * i) (kl := kl) (by omega) (by omega) hth (by rw [hA']; exact q1) (by rw [hA']; exact q2) q8 q7 (by rw [hA']; exact q6)
      rw [hA', ← hld_e (by omega) (by omega) hth q1 q2 q8 q7 q6] at r1
      rw [if_pos (of_decide_eq_true q), m_clauseAt, ob, q]
      dsimp only
      rw [r1, ob]
      dsimp only
      obtain ⟨v2, r3, r4⟩ := ih (i + 1) f v1 (X9_t r2 hv) (by omega) (by omega)
      cases hld A t (1680 + 800 * t + 2 + 8 * i) th kl
      · exact ⟨v2, r3, r4⟩
      · exact ⟨v1, rfl, X9_t r2 hv⟩
    · rw [if_neg (fun z => q (decide_eq_true z)), Bool.eq_false_iff.mpr q]
      exact ih (i + 1) f v hv (by omega) (by omega)
theorem m_one {z0 : jW} (H : RA z0 3 (w.1 94) c K) {th k : Nat} {kl : Int32} {wo : Bool} (hth : th < 40) (hk : k = 0 ∨ k = 4) : ∃ v, f_Model_isOne (nI (k + 1)) (nI th) kl d (bz wo) w = some (bz (one (w.1 94) k th kl wo (tf (w.1 94) k d (c 6))), v) ∧ X9 v w := by
  rw [f_Model_isOne, m_textFor H, ob]
  dsimp only
  cases e : tf (w.1 94) k d (c 6) with
  | none => exact ⟨w, by rw [oi, if_pos (by decide), if_pos bz_bo]; rfl, fun _ _ _ => rfl⟩
  | some t =>
    obtain ⟨ht, -⟩ := tf_lt _ _ e
    obtain ⟨cs, ks, j1, j2, j3, j4, j5, j6⟩ := tx_un H
    obtain ⟨n, c0, k0, g⟩ := j6 t ht
    have l6 := l_6 H
    have g16 := g.2.1
    rw [oi, if_neg (nI_pos (by omega)), one, ncl_e g]
    exact m_one_h H rfl ht hth g hk n 0 jfu w (fun _ _ _ => rfl) (by omega) (by unfold jfu; omega)
/-- the places a thing can be at -/
theorem mwh_c (H : RA w 3 A c K) {t : Nat} (ht : t < c 3) : ∃ p, mwh A (c 4) t d = nI p ∧ (p < c 1 ∨ p = 100 ∨ p = 101 ∨ p = 102) := by
  have hp : ∀ n, n ≤ c 4 → ∃ p, plc A t d (A (240 + 12 * t + 5)) n = nI p ∧ (p < c 1 ∨ p = 100) := by
    intro n
    induction n with
    | zero =>
      intro _
      obtain ⟨s, h1, h2, -⟩ := (p_Ithing H).1 t ht
      exact ⟨s, h1, Or.inl h2⟩
    | succ n ih =>
      intro hn
      rw [plc]
      obtain ⟨t1, x, y, d1, e, h1, h2, h3, h4, h5, h6, h7, h8, h9⟩ := p_Imove H n (by omega)
      by_cases q : A (720 + 8 * n) = nI t ∧ A (720 + 8 * n + 1) ≤ d
      · rw [if_pos q]
        by_cases q2 : d < A (720 + 8 * n + 4)
        · rw [if_pos q2]; exact ⟨100, rfl, Or.inr rfl⟩
        · rw [if_neg q2]; exact ⟨y, h4, Or.inl h8⟩
      · rw [if_neg q]; exact ih (by omega)
  rw [mwh]
  by_cases q1 : d < A (240 + 12 * t + 4)
  · rw [if_pos q1]; exact ⟨102, rfl, by omega⟩
  · rw [if_neg q1]
    split
    · exact ⟨101, rfl, by omega⟩
    · have hm := msc_plc A t d (A (240 + 12 * t + 5)) (c 4) 0
      rw [Nat.zero_add] at hm
      obtain ⟨p, e1, e2⟩ := hp (c 4) (Nat.le_refl _)
      exact ⟨p, by rw [← e1, ← hm]; rfl, by omega⟩
theorem c_pl (H : RA w 3 A c K) {t : Nat} (ht : t < c 3) : f_State_placeOn (nI t) d w = some (mwh A (c 4) t d, w) := by
  obtain ⟨s, h1, h2, h3, h4, h5, h6, h7, h8, h9, h10⟩ := (p_Ithing H).1 t ht
  refine c_place (p_Rthing H) (p_Rmove H) (p_Rchain H) (h_3 H) (l_3 H) (h_4 H) (l_4 H) ht ?_
  rcases h9 with e | ⟨n, e, _, q⟩
  · exact Or.inl e
  · have := l_0 H; exact Or.inr (by rw [e]; exact nI_pos (by omega))
theorem m_pl {z0 : jW} (H : RA z0 3 (w.1 94) c K) {t : Nat} (ht : t < c 3) : f_Model_whereOf (nI t) d w = some (mwh (w.1 94) (c 4) t d, w) := by
  have := l_3 H
  exact m_where (h_4 H) (l_4 H) (by omega)
/-- the class of a place -/
def klo (A : Nat → Int32) (p : Nat) : Int32 := if p < 100 then A (40 + 8 * p + 1) else 4
def okn (A : Nat → Int32) (c : Nat → Nat) (land d : Int32) (t : Nat) : Bool := decide (A (240 + 12 * t + 3) = land) && (decide (mwh A (c 4) t d ≤ 100) && one A 0 t (klo A (mwh A (c 4) t d).toNatClampNeg) true (tf A 0 d (c 6)))
/-- how many of the first n things count for a land -/
def nct (A : Nat → Int32) (c : Nat → Nat) (land d : Int32) : Nat → Nat
  | 0 => 0
  | n + 1 => nct A c land d n + if okn A c land d n = true then 1 else 0
theorem m_counted_h {z0 : jW} (H : RA z0 3 A c K) (hA : w.1 94 = A) {land : Int32} : ∀ (m k f : Nat) (v : jW), X9 v w → k + m = c 3 → m < f → ∃ v', f_Model_countedOf_h5 f land d (nI (nct A c land d k)) (nI k) v = some (nI (nct A c land d (c 3)), v') ∧ X9 v' w := by
  have l3 := l_3 H
  have l1 := l_1 H
  intro m
  induction m with
  | zero =>
    intro k f v hv hk hf
    obtain ⟨f, rfl⟩ : ∃ j, f = j + 1 := ⟨f - 1, by omega⟩
    have hA' : v.1 94 = A := (hv 94 (by decide) (by decide)).trans hA
    refine ⟨v, ?_, hv⟩
    rw [f_Model_countedOf_h5, if_pos (by decide), jk_3, hA', h_3 H, if_neg (nI_nlt (by omega) (by omega)), show k = c 3 by omega]
  | succ m ih =>
    intro k f v hv hk hf
    obtain ⟨f, rfl⟩ : ∃ j, f = j + 1 := ⟨f - 1, by omega⟩
    have hA' : v.1 94 = A := (hv 94 (by decide) (by decide)).trans hA
    have G : RA z0 3 (v.1 94) c K := by rw [hA']; exact H
    have hk3 : k < c 3 := by omega
    have e0 : f_Model_whereOf (nI k) d v = some (mwh A (c 4) k d, v) := by have := m_pl (d := d) G hk3; rw [hA'] at this; exact this
    have e3 : f_Model_thingAt (nI k) 3 v = some (A (240 + 12 * k + 3), v) := by have := mt_3 (w := v) (t := k) (by omega); rw [hA'] at this; exact this
    rw [f_Model_countedOf_h5, if_pos (by decide), jk_3, hA', h_3 H, if_pos (nI_lt (by omega) (by omega)), e0, ob]
    dsimp only
    rw [e3, ob, ip_1, ip_1]
    dsimp only
    have ihn : okn A c land d k = false → ∃ v', f_Model_countedOf_h5 f land d (nI (nct A c land d k)) (nI (k + 1)) v = some (nI (nct A c land d (c 3)), v') ∧ X9 v' w := fun q => by
      have := ih (k + 1) f v hv (by omega) (by omega)
      rw [nct, q] at this
      exact this
    by_cases q1 : A (240 + 12 * k + 3) = land
    · rw [if_pos q1]
      by_cases q2 : mwh A (c 4) k d ≤ 100
      · rw [if_pos q2]
        obtain ⟨p, hp, hp2⟩ := mwh_c (d := d) H hk3
        have ek : f_Model_classOf (mwh A (c 4) k d) v = some (klo A (mwh A (c 4) k d).toNatClampNeg, v) := by
          rw [hp, nI_clamp (by omega), f_Model_classOf, if_neg (nI_pos (by omega)), klo]
          by_cases q : p < 100
          · rw [if_pos q, if_pos (show nI p < 100 from nI_lt (a := p) (b := 100) q (by omega)), ms_1 (by omega), hA']; rfl
          · rw [if_neg q, if_neg (show ¬ nI p < 100 from nI_nlt (a := p) (b := 100) (by omega) (by omega))]
        rw [ek, ob]
        dsimp only
        obtain ⟨v1, r1, r2⟩ := m_one (d := d) (th := k) (k := 0) (kl := klo A (mwh A (c 4) k d).toNatClampNeg) (wo := true) G (by omega) (Or.inl rfl)
        rw [hA'] at r1
        have r1' : f_Model_isOne 1 (nI k) (klo A (mwh A (c 4) k d).toNatClampNeg) d 1 v = _ := r1
        rw [r1', ob]
        dsimp only
        obtain ⟨v2, r3, r4⟩ := ih (k + 1) f v1 (X9_t r2 hv) (by omega) (by omega)
        have eo : okn A c land d k = one A 0 k (klo A (mwh A (c 4) k d).toNatClampNeg) true (tf A 0 d (c 6)) := by
          rw [okn, decide_eq_true q1, decide_eq_true q2]; rfl
        rw [nct, eo] at r3
        cases e : one A 0 k (klo A (mwh A (c 4) k d).toNatClampNeg) true (tf A 0 d (c 6)) with
        | false => rw [e] at r3; exact ⟨v2, r3, r4⟩
        | true => rw [e] at r3; exact ⟨v2, r3, r4⟩
      · rw [if_neg q2]; exact ihn (by rw [okn, decide_eq_true q1, decide_eq_false q2]; rfl)
    · rw [if_neg q1]; exact ihn (by rw [okn, decide_eq_false q1]; rfl)
theorem m_counted {z0 : jW} (H : RA z0 3 (w.1 94) c K) {land : Int32} : ∃ v, f_Model_countedOf land d w = some (nI (nct (w.1 94) c land d (c 3)), v) ∧ X9 v w := by
  rw [f_Model_countedOf]
  exact m_counted_h H rfl (c 3) 0 jfu w (fun _ _ _ => rfl) (by omega) (by have := l_3 H; unfold jfu; omega)
/-- only the looked-at fields differ -/
def X23 (v w : jW) : Prop := ∀ b, b ≠ 23 → v.1 b = w.1 b
theorem X23_t {u : jW} (h : X23 u v) (g : X23 v w) : X23 u w := fun b q => (h b q).trans (g b q)
theorem X23_Sq (h : X23 v w) : Sq v w := ⟨fun b q => h b (fun z => by rw [z] at q; exact absurd q (by decide)), fun j _ => congrFun (h 93 (by omega)) j⟩
theorem c_isC (H : RA w 3 A c K) {th p : Nat} (hth : th < c 3) (hp : p < c 1 ∨ p = 100) : f_State_isCounting (oi (tf A 0 d (c 6))) (nI th) (if p = 100 then -1 else nI p) w = some (bz (one A 0 th (klo A p) true (tf A 0 d (c 6))), lkw w A th (klo A p)) := by
  have l1 := l_1 H
  have l3 := l_3 H
  have ej : f_State_isCounting (oi (tf A 0 d (c 6))) (nI th) (if p = 100 then -1 else nI p) w = f_State_isCounting_j27 (oi (tf A 0 d (c 6))) (klo A p) (nI th) w := by
    rw [f_State_isCounting, klo]
    by_cases q : p = 100
    · rw [if_pos q, if_pos rfl, if_neg (by omega)]
    · rw [if_neg q, if_neg (nI_ne_m1 (by omega)), a_si1 H (by omega), ob, if_pos (by omega)]
  have G := Sq_RA (lkw_Sq (w := w) (A := A) (th := th) (kl := klo A p)) H
  rw [ej, f_State_isCounting_j27, c_look H hth, ob]
  cases e : tf A 0 d (c 6) with
  | none => rw [oi, if_pos rfl]; rfl
  | some t =>
    obtain ⟨ht, -⟩ := tf_lt _ _ e
    have l6 := l_6 H
    have := c_some (k := 0) (t := t) (th := th) (kl := klo A p) G ht (by omega) (Or.inl rfl) (fun j hj => if_pos ⟨rfl, hj⟩)
    rw [oi, if_neg (nI_ne_m1 (by omega)), show (0 : Int32) = nI 0 from rfl, this, ob, one]
    dsimp only
    cases sh A t 0 th (klo A p) (ncl A t) 0 <;> rfl
theorem c_nct_h (H : RA w 3 A c K) {land : Int32} : ∀ (m k f : Nat) (v : jW), X23 v w → k + m = c 3 → m < f → ∃ v', f_State_numberCounting_h16 f land d (oi (tf A 0 d (c 6))) (nI (nct A c land d k)) (nI k) v = some (nI (nct A c land d (c 3)), v') ∧ X23 v' w := by
  have l3 := l_3 H
  have l1 := l_1 H
  intro m
  induction m with
  | zero =>
    intro k f v hv hk hf
    obtain ⟨f, rfl⟩ : ∃ j, f = j + 1 := ⟨f - 1, by omega⟩
    have G := Sq_RA (X23_Sq hv) H
    refine ⟨v, ?_, hv⟩
    rw [f_State_numberCounting_h16, n_th G, ob]
    dsimp only
    rw [if_neg (nI_nlt (by omega) (by omega)), show k = c 3 by omega]
  | succ m ih =>
    intro k f v hv hk hf
    obtain ⟨f, rfl⟩ : ∃ j, f = j + 1 := ⟨f - 1, by omega⟩
    have G := Sq_RA (X23_Sq hv) H
    have hk3 : k < c 3 := by omega
    rw [f_State_numberCounting_h16, n_th G, ob]
    dsimp only
    rw [if_pos (nI_lt (by omega) (by omega)), a_th3 G hk3, ob, ip_1]
    dsimp only
    have ihn : okn A c land d k = false → ∃ v', f_State_numberCounting_h16 f land d (oi (tf A 0 d (c 6))) (nI (nct A c land d k)) (nI (k + 1)) v = some (nI (nct A c land d (c 3)), v') ∧ X23 v' w := fun q => by
      have := ih (k + 1) f v hv (by omega) (by omega)
      rw [nct, q] at this
      exact this
    by_cases q1 : A (240 + 12 * k + 3) = land
    · rw [if_pos q1, c_pl G hk3, ob]
      dsimp only
      by_cases q2 : mwh A (c 4) k d ≤ 100
      · rw [if_pos q2]
        obtain ⟨p, hp, hp2⟩ := mwh_c (d := d) H hk3
        have hp3 : p < c 1 ∨ p = 100 := by
          rw [hp] at q2
          have := (nI_leI (a := p) (b := 100) (by omega) (by omega)).mp q2
          omega
        have ei : (if mwh A (c 4) k d = 100 then f_State_numberCounting_j75 (f_State_numberCounting_h16 f) land d (oi (tf A 0 d (c 6))) (nI (nct A c land d k)) (nI k) (-1) (nI k) (oi (tf A 0 d (c 6))) v else f_State_numberCounting_j75 (f_State_numberCounting_h16 f) land d (oi (tf A 0 d (c 6))) (nI (nct A c land d k)) (nI k) (mwh A (c 4) k d) (nI k) (oi (tf A 0 d (c 6))) v) = f_State_numberCounting_j75 (f_State_numberCounting_h16 f) land d (oi (tf A 0 d (c 6))) (nI (nct A c land d k)) (nI k) (if p = 100 then -1 else nI p) (nI k) (oi (tf A 0 d (c 6))) v := by
          rw [hp]
          by_cases q : p = 100
          · subst q; rfl
          · rw [if_neg q, if_neg (show ¬ nI p = 100 from fun z => q ((nI_eq (a := p) (b := 100) (by omega) (by omega)).mp z))]
        rw [ei, f_State_numberCounting_j75, c_isC G hk3 hp3, ob, ip_1, ip_1]
        dsimp only
        have hv1 : X23 (lkw v A k (klo A p)) w := X23_t (fun b q => lkw_ne q) hv
        obtain ⟨v2, r3, r4⟩ := ih (k + 1) f _ hv1 (by omega) (by omega)
        have eo : okn A c land d k = one A 0 k (klo A p) true (tf A 0 d (c 6)) := by
          rw [okn, decide_eq_true q1, decide_eq_true q2, hp, nI_clamp (by omega)]; rfl
        rw [nct, eo] at r3
        cases e : one A 0 k (klo A p) true (tf A 0 d (c 6)) with
        | false => rw [e] at r3; exact ⟨v2, r3, r4⟩
        | true => rw [e] at r3; exact ⟨v2, r3, r4⟩
      · rw [if_neg q2]; exact ihn (by rw [okn, decide_eq_true q1, decide_eq_false q2]; rfl)
    · rw [if_neg q1]; exact ihn (by rw [okn, decide_eq_false q1]; rfl)
theorem c_nct (H : RA w 3 A c K) {land : Int32} : ∃ v, f_State_numberCounting land d w = some (nI (nct A c land d (c 3)), v) ∧ X23 v w := by
  have ct : f_Treaty_textFor 0 d w = some (oi (tf A 0 d (c 6)), w) := c_textFor (k := 0) H (by omega)
  rw [f_State_numberCounting, ct, ob]
  exact c_nct_h H (c 3) 0 jfu w (fun _ _ => rfl) (by omega) (by have := l_3 H; unfold jfu; omega)
theorem nct_le {land : Int32} : ∀ n, nct A c land d n ≤ n := by
  intro n
  induction n with
  | zero => exact Nat.le_refl _
  | succ n ih => rw [nct]; split <;> omega
end CO

/-! LAYER B: conditions as the reference reads them -/
def menv (A : Nat → Int32) (th : Nat) (kl : Int32) (j : Nat) : Int32 := if j = 0 then A (240 + 12 * th) else if j = 1 then A (240 + 12 * th + 1) else if j = 2 then A (240 + 12 * th + 2) else if j = 3 then kl else A (240 + 12 * th + 3)
theorem jup_fn {f : Nat → Nat → Int32} {a k b : Nat} {x : Int32} (h : b ≠ a) : jup f a k x b = f b := funext fun j => jup_ne h j
section IS
variable {v : jW}
theorem m_named {j th : Nat} {kl : Int32} (hj : j < 5) (ht : th < 40) : f_Model_named (nI j) (nI th) kl v = some (menv (v.1 94) th kl j, v) := by
  rw [f_Model_named]
  simp (disch := omega) only [ms_0, ms_1, ms_2, ms_3, ms_4, mt_0, mt_1, mt_2, mt_3, mt_4, mt_5, mt_6, mt_7, mt_8, mm_0, mm_1, mm_2, mm_3, mm_4, ob]
  rcases (show j = 0 ∨ j = 1 ∨ j = 2 ∨ j = 3 ∨ j = 4 by omega) with q | q | q | q | q <;> subst q <;> rfl
theorem m_opd {t q th s n d x f en : Nat} {kl : Int32} (ht : t < 10) (hq : q + 6 < 21000) (hend : v.1 94 (q + 5) = nI en) (hs : s < en) (hen : en ≤ 300) (ho : opm (v.1 94) (1680 + 800 * t + 140 + 2 * s) x) (hx : x < 10005) (hth : th < 40) (hn : n < 300) :
    f_Model_isSo_h16 (f + 1) (nI t) (nI q) (nI th) kl (nI n) (nI d) (nI s) v = f_Model_isSo_h16 f (nI t) (nI q) (nI th) kl (nI (n + 1)) (nI d) (nI (s + 1)) (jup v.1 99 n (opv (menv (v.1 94) th kl) x), v.2) := by
  have e1 : jal [jin (nI q + 5) 21000] = true := by rw [ip_5, jal_c, jin_nI (by omega) (by omega)]; rfl
  have e3 : jal [jin (nI (1680 + 800 * t + 140 + 2 * s + 1)) 21000, jin (nI (1680 + 800 * t + 140 + 2 * s)) 21000] = true := by rw [jal_c, jal_c, jin_nI (by omega) (by omega), jin_nI (by omega) (by omega)]; rfl
  have ix : ((((1680 + (800 * nI t)) + 140) + (2 * nI s) : Int32)) = nI (1680 + 800 * t + 140 + 2 * s) := by rw [im_800, ia_1680, ip_140, im_2, nI_add]
  rw [f_Model_isSo_h16, if_pos e1, ip_5 q, nI_clamp (n := q + 5) (by omega), hend, if_pos (nI_lt hs (by omega)), ix, ip_1 (1680 + 800 * t + 140 + 2 * s), if_pos e3, nI_clamp (n := 1680 + 800 * t + 140 + 2 * s) (by omega), nI_clamp (n := 1680 + 800 * t + 140 + 2 * s + 1) (by omega)]
  unfold opm at ho
  by_cases h : x < 10000
  · rw [if_pos h] at ho
    rw [if_pos ho.1, f_Model_isSo_j92, if_pos ho.1, ho.2]
    rw [jal_c, jin_nI (by omega) (by omega), nI_clamp (by omega), opv, if_pos h, ip_1 n, ip_1 s]
    rfl
  · rw [if_neg h] at ho
    rw [if_neg (by rw [ho.1]; decide), if_pos ho.1, f_Model_isSo_j92, if_neg (by rw [ho.1]; decide), ho.2]
    rw [m_named (by omega) hth, ob]
    dsimp only
    rw [jal_c, jin_nI (by omega) (by omega), nI_clamp (by omega), opv, if_neg h, ip_1 n, ip_1 s]
    rfl
theorem m_cmp {t q th s d k f en : Nat} {kl : Int32} (ht : t < 10) (hq : q + 6 < 21000) (hend : v.1 94 (q + 5) = nI en) (hs : s < en) (hen : en ≤ 300) (ho : v.1 94 (1680 + 800 * t + 140 + 2 * s) = nI (10 + k)) (hk : k < 6) (hd : d < 300) :
    f_Model_isSo_h16 (f + 1) (nI t) (nI q) (nI th) kl (nI 2) (nI d) (nI s) v = f_Model_isSo_h16 f (nI t) (nI q) (nI th) kl (nI 0) (nI (d + 1)) (nI (s + 1)) (jup v.1 100 d (bz (cmq k (v.1 99 0) (v.1 99 1))), v.2) := by
  have z0 : ¬ (nI (10 + k) : Int32) = 0 := fun z => by have := (nI_eq (a := 10 + k) (b := 0) (by omega) (by omega)).mp z; omega
  have z1 : ¬ (nI (10 + k) : Int32) = 1 := fun z => by have := (nI_eq (a := 10 + k) (b := 1) (by omega) (by omega)).mp z; omega
  have z21 : (nI (10 + k) : Int32) < 21 := nI_lt (a := 10 + k) (b := 21) (by omega) (by omega)
  have e2 : (nI 2 + (-2) : Int32) = nI 0 := by decide
  have e1 : jal [jin (nI q + 5) 21000] = true := by rw [ip_5, jal_c, jin_nI (by omega) (by omega)]; rfl
  have e3 : jal [jin (nI (1680 + 800 * t + 140 + 2 * s + 1)) 21000, jin (nI (1680 + 800 * t + 140 + 2 * s)) 21000] = true := by rw [jal_c, jal_c, jin_nI (by omega) (by omega), jin_nI (by omega) (by omega)]; rfl
  have ix : ((((1680 + (800 * nI t)) + 140) + (2 * nI s) : Int32)) = nI (1680 + 800 * t + 140 + 2 * s) := by rw [im_800, ia_1680, ip_140, im_2, nI_add]
  rw [f_Model_isSo_h16, if_pos e1, ip_5 q, nI_clamp (n := q + 5) (by omega), hend, if_pos (nI_lt hs (by omega)), ix, ip_1 (1680 + 800 * t + 140 + 2 * s), if_pos e3, nI_clamp (n := 1680 + 800 * t + 140 + 2 * s) (by omega), ip_1 s]
  rw [ho, if_neg z0, if_neg z1, if_pos z21, e2, ip_1 0, ip_1 d, if_pos (show jal [jin (nI (0 + 1)) 320, jin (nI 0) 320] = true by decide), show Int32.toNatClampNeg (nI 0) = 0 from by decide, show Int32.toNatClampNeg (nI (0 + 1)) = 1 from by decide, m_asked hk, ob]
  dsimp only
  rw [jal_c, bz_bo, jal_c, jin_nI (by omega) (by omega), nI_clamp (by omega)]
  rfl
theorem m_op {t q th s d k f en : Nat} {kl : Int32} (ht : t < 10) (hq : q + 6 < 21000) (hend : v.1 94 (q + 5) = nI en) (hs : s < en) (hen : en ≤ 300) (ho : v.1 94 (1680 + 800 * t + 140 + 2 * s) = nI 30) {b : Bool} (hb : v.1 100 d = bz b) (hd : d < 300) :
    f_Model_isSo_h16 (f + 1) (nI t) (nI q) (nI th) kl (nI 0) (nI (d + 1)) (nI s) v = f_Model_isSo_h16 f (nI t) (nI q) (nI th) kl (nI 0) (nI (d + 1)) (nI (s + 1)) (jup v.1 100 d (bz (!b)), v.2) := by
  have e1 : jal [jin (nI q + 5) 21000] = true := by rw [ip_5, jal_c, jin_nI (by omega) (by omega)]; rfl
  have e3 : jal [jin (nI (1680 + 800 * t + 140 + 2 * s + 1)) 21000, jin (nI (1680 + 800 * t + 140 + 2 * s)) 21000] = true := by rw [jal_c, jal_c, jin_nI (by omega) (by omega), jin_nI (by omega) (by omega)]; rfl
  have ix : ((((1680 + (800 * nI t)) + 140) + (2 * nI s) : Int32)) = nI (1680 + 800 * t + 140 + 2 * s) := by rw [im_800, ia_1680, ip_140, im_2, nI_add]
  rw [f_Model_isSo_h16, if_pos e1, ip_5 q, nI_clamp (n := q + 5) (by omega), hend, if_pos (nI_lt hs (by omega)), ix, ip_1 (1680 + 800 * t + 140 + 2 * s), if_pos e3, nI_clamp (n := 1680 + 800 * t + 140 + 2 * s) (by omega), ip_1 s]
  rw [ho, if_neg (by decide), if_neg (by decide), if_neg (by decide), if_pos (by decide), nI_pred, nI_clamp (n := d) (by omega), hb, jal_c, jal_c, jal_c, jin_nI (n := d) (by omega) (by omega)]
  cases b <;> rfl
theorem m_an {t q th s d f en : Nat} {kl : Int32} (ht : t < 10) (hq : q + 6 < 21000) (hend : v.1 94 (q + 5) = nI en) (hs : s < en) (hen : en ≤ 300) (ho : v.1 94 (1680 + 800 * t + 140 + 2 * s) = nI 22) {a b : Bool} (hb : v.1 100 d = bz a) (hb' : v.1 100 (d + 1) = bz b) (hd : d < 300) :
    f_Model_isSo_h16 (f + 1) (nI t) (nI q) (nI th) kl (nI 0) (nI (d + 2)) (nI s) v = f_Model_isSo_h16 f (nI t) (nI q) (nI th) kl (nI 0) (nI (d + 1)) (nI (s + 1)) (jup v.1 100 d (bz (a && b)), v.2) := by
  have e9 : nI (d + 2) + (-1) = nI (d + 1) := m1_add (d + 1)
  have e1 : jal [jin (nI q + 5) 21000] = true := by rw [ip_5, jal_c, jin_nI (by omega) (by omega)]; rfl
  have e3 : jal [jin (nI (1680 + 800 * t + 140 + 2 * s + 1)) 21000, jin (nI (1680 + 800 * t + 140 + 2 * s)) 21000] = true := by rw [jal_c, jal_c, jin_nI (by omega) (by omega), jin_nI (by omega) (by omega)]; rfl
  have ix : ((((1680 + (800 * nI t)) + 140) + (2 * nI s) : Int32)) = nI (1680 + 800 * t + 140 + 2 * s) := by rw [im_800, ia_1680, ip_140, im_2, nI_add]
  rw [f_Model_isSo_h16, if_pos e1, ip_5 q, nI_clamp (n := q + 5) (by omega), hend, if_pos (nI_lt hs (by omega)), ix, ip_1 (1680 + 800 * t + 140 + 2 * s), if_pos e3, nI_clamp (n := 1680 + 800 * t + 140 + 2 * s) (by omega), ip_1 s]
  rw [ho, if_neg (by decide), if_neg (by decide), if_neg (by decide), if_neg (by decide), if_pos (by decide), e9, nI_pred, nI_clamp (n := d) (by omega), nI_clamp (n := d + 1) (by omega), hb, hb', jal_c, jal_c, jal_c, jal_c, jin_nI (n := d) (by omega) (by omega), jin_nI (n := d + 1) (by omega) (by omega)]
  cases a <;> cases b <;> rfl
theorem m_or {t q th s d f en : Nat} {kl : Int32} (ht : t < 10) (hq : q + 6 < 21000) (hend : v.1 94 (q + 5) = nI en) (hs : s < en) (hen : en ≤ 300) (ho : v.1 94 (1680 + 800 * t + 140 + 2 * s) = nI 21) {a b : Bool} (hb : v.1 100 d = bz a) (hb' : v.1 100 (d + 1) = bz b) (hd : d < 300) :
    f_Model_isSo_h16 (f + 1) (nI t) (nI q) (nI th) kl (nI 0) (nI (d + 2)) (nI s) v = f_Model_isSo_h16 f (nI t) (nI q) (nI th) kl (nI 0) (nI (d + 1)) (nI (s + 1)) (jup v.1 100 d (bz (a || b)), v.2) := by
  have e9 : nI (d + 2) + (-1) = nI (d + 1) := m1_add (d + 1)
  have e1 : jal [jin (nI q + 5) 21000] = true := by rw [ip_5, jal_c, jin_nI (by omega) (by omega)]; rfl
  have e3 : jal [jin (nI (1680 + 800 * t + 140 + 2 * s + 1)) 21000, jin (nI (1680 + 800 * t + 140 + 2 * s)) 21000] = true := by rw [jal_c, jal_c, jin_nI (by omega) (by omega), jin_nI (by omega) (by omega)]; rfl
  have ix : ((((1680 + (800 * nI t)) + 140) + (2 * nI s) : Int32)) = nI (1680 + 800 * t + 140 + 2 * s) := by rw [im_800, ia_1680, ip_140, im_2, nI_add]
  rw [f_Model_isSo_h16, if_pos e1, ip_5 q, nI_clamp (n := q + 5) (by omega), hend, if_pos (nI_lt hs (by omega)), ix, ip_1 (1680 + 800 * t + 140 + 2 * s), if_pos e3, nI_clamp (n := 1680 + 800 * t + 140 + 2 * s) (by omega), ip_1 s]
  rw [ho, if_neg (by decide), if_neg (by decide), if_neg (by decide), if_neg (by decide), if_neg (by decide), e9, nI_pred, nI_clamp (n := d) (by omega), nI_clamp (n := d + 1) (by omega), hb, hb', jal_c, jal_c, jal_c, jal_c, jin_nI (n := d) (by omega) (by omega), jin_nI (n := d + 1) (by omega) (by omega)]
  cases a <;> cases b <;> rfl
def Mst (v : jW) (st : List Bool) : Prop := ∀ i, i < st.length → v.1 100 (st.length - 1 - i) = bz (st.getD i false)
/-- the same but for the cells 99 and 100 -/
def X9 (v w : jW) : Prop := ∀ b, b ≠ 99 → b ≠ 100 → v.1 b = w.1 b
theorem X9_jup {j b : Nat} {x : Int32} (h : b = 99 ∨ b = 100) : X9 (jup v.1 b j x, v.2) v := fun b' h1 h2 => funext fun k => jup_ne (by omega) k
theorem X9_t {u w : jW} (h : X9 u v) (g : X9 v w) : X9 u w := fun b h1 h2 => (h b h1 h2).trans (g b h1 h2)
theorem X9_Sq {w : jW} (h : X9 v w) : Sq v w := ⟨fun b q => h b (fun z => by rw [z] at q; exact absurd q (by decide)) (fun z => by rw [z] at q; exact absurd q (by decide)), fun j _ => congrFun (h 93 (by omega) (by omega)) j⟩
theorem m_isSo_h {t q th en : Nat} {kl : Int32} {A : Nat → Int32} (ht : t < 10) (hq : q + 6 < 21000) (hend : A (q + 5) = nI en) (hen : en ≤ 300) (hth : th < 40) : ∀ (L : List (Nat × Nat × Nat)) (s f d : Nat) (v : jW) (st : List Bool), v.1 94 = A → Mst v st → st.length = d → d ≤ 60 → wfd L d = some 1 → tkm A (1680 + 800 * t + 140 + 2 * s) L → s + tln L = en → tln L < f →
    ∃ v', f_Model_isSo_h16 f (nI t) (nI q) (nI th) kl (nI 0) (nI d) (nI s) v = some (bz ((evs (menv A th kl) L st).getD 0 false), v') ∧ X9 v' v := by
  intro L
  induction L with
  | nil =>
    intro s f d v st hA hm hd hd60 hw hk hs hf
    obtain ⟨f, rfl⟩ : ∃ j, f = j + 1 := ⟨f - 1, by omega⟩
    rw [wfd] at hw
    injection hw with hw
    rw [tln, Nat.add_zero] at hs
    refine ⟨v, ?_, fun _ _ _ => rfl⟩
    have e : v.1 100 0 = bz (st.getD 0 false) := by
      have := hm 0 (by omega)
      rw [show st.length - 1 - 0 = 0 by omega] at this
      exact this
    rw [evs, f_Model_isSo_h16, if_pos (show jal [jin (nI q + 5) 21000] = true by rw [ip_5, jal_c, jin_nI (by omega) (by omega)]; rfl), ip_5, nI_clamp (by omega), hA, hend, if_neg (nI_nlt (by omega) (by omega)), jk_0, e, bz_bo]; rfl
  | cons t' L ih =>
    intro s f d v st hA hm hd hd60 hw hk hs hf
    rw [wfd] at hw
    rw [tkm] at hk
    rw [tln] at hs hf
    have hend' : v.1 94 (q + 5) = nI en := by rw [hA]; exact hend
    have up : ∀ (u : jW) (j : Nat) (x : Int32), u.1 94 = A → (jup u.1 99 j x, u.2).1 94 = A := fun u j x h => by
      show jup u.1 99 j x 94 = A
      rw [jup_fn (show 94 ≠ 99 by decide)]; exact h
    have up' : ∀ (u : jW) (j : Nat) (x : Int32), u.1 94 = A → (jup u.1 100 j x, u.2).1 94 = A := fun u j x h => by
      show jup u.1 100 j x 94 = A
      rw [jup_fn (show 94 ≠ 100 by decide)]; exact h
    rw [evs]
    by_cases k6 : t'.1 < 6
    · rw [if_pos k6] at hw hk hs hf ⊢
      by_cases k7 : d < 60 ∧ t'.2.1 < 10005 ∧ t'.2.2 < 10005
      · rw [if_pos k7] at hw
        obtain ⟨t1, t2, t3, t4⟩ := hk
        obtain ⟨f, rfl⟩ : ∃ j, f = j + 1 + 1 + 1 := ⟨f - 3, by omega⟩
        rw [m_opd ht hq hend' (by omega) hen (by rw [hA]; exact t1) k7.2.1 hth (by omega), hA]
        have a1 := up v 0 (opv (menv A th kl) t'.2.1) hA
        rw [m_opd (n := 0 + 1) ht hq (by rw [a1]; exact hend) (by omega) hen (by rw [a1]; exact t2) k7.2.2 hth (by omega), a1]
        have a2 := up _ 1 (opv (menv A th kl) t'.2.2) a1
        rw [show (0 + 1 + 1) = 2 from rfl, m_cmp ht hq (by rw [a2]; exact hend) (by omega) hen (by rw [a2]; exact t3) k6 (by omega)]
        dsimp only
        rw [jup_at, if_neg (by omega), jup_eq, jup_eq]
        have a3 := up' _ d (bz (cmq t'.1 (opv (menv A th kl) t'.2.1) (opv (menv A th kl) t'.2.2))) a2
        obtain ⟨v', g1, g2⟩ := ih (s + 3) f (d + 1) _ (cmq t'.1 (opv (menv A th kl) t'.2.1) (opv (menv A th kl) t'.2.2) :: st) a3 (fun i hi => by
          rw [List.length_cons] at hi ⊢
          cases i with
          | zero => rw [Nat.add_sub_cancel, Nat.sub_zero, hd]; exact jup_eq
          | succ i =>
            rw [List.getD_cons_succ, ← hm i (by omega)]
            rw [show st.length + 1 - 1 - (i + 1) = st.length - 1 - i by omega]
            dsimp only
            rw [jup_at, if_neg (by omega), jup_fn (show 100 ≠ 99 by decide), jup_fn (show 100 ≠ 99 by decide)]) (by rw [List.length_cons]; omega) (by omega) hw t4 (by omega) (by omega)
        exact ⟨v', g1, X9_t g2 (X9_t (X9_jup (Or.inr rfl)) (X9_t (X9_jup (Or.inl rfl)) (X9_jup (Or.inl rfl))))⟩
      · rw [if_neg k7] at hw; exact absurd hw (by simp)
    · rw [if_neg k6] at hw hk hs hf ⊢
      obtain ⟨f, rfl⟩ : ∃ j, f = j + 1 := ⟨f - 1, by omega⟩
      by_cases k6' : t'.1 = 6
      · rw [if_pos k6'] at hw ⊢
        by_cases k1 : 1 ≤ d
        · rw [if_pos k1] at hw
          have h1 := hk.1
          rw [mop, if_pos k6'] at h1
          cases st with
          | nil => simp at hd; omega
          | cons b st =>
            rw [List.length_cons] at hd
            subst hd
            have hb := hm 0 (by simp)
            rw [List.length_cons, Nat.add_sub_cancel, Nat.sub_zero] at hb
            rw [m_op (k := 0) (b := b) ht hq hend' (by omega) hen (by rw [hA]; exact h1) hb (by omega)]
            obtain ⟨v', g1, g2⟩ := ih (s + 1) f (st.length + 1) _ ((!b) :: st) (up' v st.length (bz (!b)) hA) (fun i hi => by
              rw [List.length_cons] at hi ⊢
              cases i with
              | zero => rw [Nat.add_sub_cancel, Nat.sub_zero]; exact jup_eq
              | succ i =>
                have := hm (i + 1) (by rw [List.length_cons]; omega)
                rw [List.length_cons] at this
                rw [List.getD_cons_succ] at this ⊢
                rw [← this]
                exact jup_k (by omega)) (by rw [List.length_cons]) (by omega) hw hk.2 (by omega) (by omega)
            exact ⟨v', g1, X9_t g2 (X9_jup (Or.inr rfl))⟩
        · rw [if_neg k1] at hw; exact absurd hw (by simp)
      · rw [if_neg k6'] at hw ⊢
        by_cases k8 : t'.1 ≤ 8
        · rw [if_pos k8] at hw
          by_cases k2 : 2 ≤ d
          · rw [if_pos k2] at hw
            cases st with
            | nil => simp at hd; omega
            | cons y st =>
              cases st with
              | nil => simp at hd; omega
              | cons b st =>
                simp only [List.length_cons] at hd
                subst hd
                have hb := hm 0 (by simp)
                have hb' := hm 1 (by simp)
                simp only [List.length_cons] at hb hb'
                rw [show st.length + 1 + 1 - 1 - 0 = st.length + 1 by omega] at hb
                rw [show st.length + 1 + 1 - 1 - 1 = st.length by omega] at hb'
                have h1 := hk.1
                have push : ∀ r : Bool, Mst (jup v.1 100 st.length (bz r), v.2) (r :: st) := fun r i hi => by
                  rw [List.length_cons] at hi ⊢
                  cases i with
                  | zero => rw [Nat.add_sub_cancel, Nat.sub_zero]; exact jup_eq
                  | succ i =>
                    have := hm (i + 2) (by simp only [List.length_cons]; omega)
                    simp only [List.length_cons] at this
                    rw [List.getD_cons_succ, List.getD_cons_succ] at this
                    rw [List.getD_cons_succ, ← this, show st.length + 1 + 1 - 1 - (i + 2) = st.length + 1 - 1 - (i + 1) by omega]
                    exact jup_k (by omega)
                by_cases k7 : t'.1 = 7
                · rw [mop, if_neg k6', if_pos k7] at h1
                  rw [m_an (a := b) (b := y) ht hq hend' (by omega) hen (by rw [hA]; exact h1) hb' hb (by omega), decide_eq_true k7]
                  obtain ⟨v', g1, g2⟩ := ih (s + 1) f (st.length + 1) _ ((b && y) :: st) (up' v st.length _ hA) (push _) (by rw [List.length_cons]) (by omega) hw hk.2 (by omega) (by omega)
                  exact ⟨v', g1, X9_t g2 (X9_jup (Or.inr rfl))⟩
                · rw [mop, if_neg k6', if_neg k7] at h1
                  rw [m_or (a := b) (b := y) ht hq hend' (by omega) hen (by rw [hA]; exact h1) hb' hb (by omega), decide_eq_false k7]
                  obtain ⟨v', g1, g2⟩ := ih (s + 1) f (st.length + 1) _ ((b || y) :: st) (up' v st.length _ hA) (push _) (by rw [List.length_cons]) (by omega) hw hk.2 (by omega) (by omega)
                  exact ⟨v', g1, X9_t g2 (X9_jup (Or.inr rfl))⟩
          · rw [if_neg k2] at hw; exact absurd hw (by simp)
        · rw [if_neg k8] at hw; exact absurd hw (by simp)
theorem m_isSo {t q th s : Nat} {kl : Int32} {L : List (Nat × Nat × Nat)} (ht : t < 10) (hq : q + 6 < 21000) (hth : th < 40) (h4 : v.1 94 (q + 4) = nI s) (h5 : v.1 94 (q + 5) = nI (s + tln L)) (hl : s + tln L ≤ 300) (hw : wfd L 0 = some 1) (hk : tkm (v.1 94) (1680 + 800 * t + 140 + 2 * s) L) : ∃ v', f_Model_isSo (nI t) (nI q) (nI th) kl v = some (bz (evl (menv (v.1 94) th kl) L), v') ∧ X9 v' v := by
  rw [f_Model_isSo]
  simp (disch := omega) only [ia_1, ia_2, ia_3, ia_4, ia_5, ia_6, ia_7, ia_8, ia_9, ia_20, ia_40, ia_120, ia_140, ia_240, ia_720, ia_1520, ia_1680, ia_9680, ia_11280, ia_12480, ia_12880, ia_13080, ia_20760, ia_20880, ip_0, ip_1, ip_2, ip_3, ip_4, ip_5, ip_6, ip_7, ip_8, ip_9, ip_140, im_2, im_4, im_8, im_12, im_800, nI_clamp, jin_nI, jal_c, jal_n, Bool.and_true, if_true, ob, jlw_e, jk_0, jk_1, jk_2, jk_3, jk_4, jk_5, jk_6, jk_7, jk_8, jk_9, jk_10, jk_11, jk_12, jk_13, jk_14, jk_15, jk_16, jk_17, jk_18, jk_19, jg_0, jg_1, jg_2, jg_3, jg_4, jg_5, jg_6, jg_7, jg_8, jg_9, jg_10, jg_11, jg_12, jg_13, jg_14, jg_15, jg_16, jg_17, jg_18, jg_19, h4]
  exact m_isSo_h ht hq h5 hl hth L s jfu 0 v [] rfl (fun i hi => absurd hi (Nat.not_lt_zero i)) rfl (by omega) hw hk rfl (by unfold jfu; omega)
/-- what a clause at q of the text t says of a thing at a class of sites -/
def hld (A : Nat → Int32) (t q th : Nat) (kl : Int32) : Bool := match f_Model_isSo (nI t) (nI q) (nI th) kl (fun b j => if b = 94 then A j else 0, fun _ _ => 0) with
  | none => false
  | some (x, _) => x == 1
theorem hld_e {A : Nat → Int32} {t q th s : Nat} {kl : Int32} {L : List (Nat × Nat × Nat)} (ht : t < 10) (hq : q + 6 < 21000) (hth : th < 40) (h4 : A (q + 4) = nI s) (h5 : A (q + 5) = nI (s + tln L)) (hl : s + tln L ≤ 300) (hw : wfd L 0 = some 1) (hk : tkm A (1680 + 800 * t + 140 + 2 * s) L) : hld A t q th kl = evl (menv A th kl) L := by
  obtain ⟨v', g, -⟩ := m_isSo (v := (fun b j => if b = 94 then A j else 0, fun _ _ => 0)) (kl := kl) ht hq hth h4 h5 hl hw hk
  rw [hld, g]
  show (bz (evl (menv A th kl) L) == 1) = _
  cases evl (menv A th kl) L <;> rfl
end IS

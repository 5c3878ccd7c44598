/-! LAYER B: which things count -/
def sh (A : Nat → Int32) (t k th : Nat) (kl : Int32) : Nat → Nat → Bool
  | 0, _ => false
  | m + 1, i => (kcl A t k i && hld A t (1680 + 800 * t + 2 + 8 * i) th kl) || sh A t k th kl m (i + 1)
def one (A : Nat → Int32) (k th : Nat) (kl : Int32) (wo : Bool) : Option Nat → Bool
  | none => wo
  | some t => sh A t k th kl (ncl A t) 0
theorem evs_c {e e' : Nat → Int32} (h : ∀ j, j < 5 → e j = e' j) : ∀ (L : List (Nat × Nat × Nat)) (st : List Bool) (d r : Nat), wfd L d = some r → evs e L st = evs e' L st := by
  have ho : ∀ x, x < 10005 → opv e x = opv e' x := fun x hx => by
    unfold opv
    by_cases q : x < 10000
    · rw [if_pos q, if_pos q]
    · rw [if_neg q, if_neg q, h _ (by omega)]
  intro L
  induction L with
  | nil => intro st d r _; rfl
  | cons t L ih =>
    intro st d r hw
    rw [wfd] at hw
    rw [evs, evs]
    by_cases k6 : t.1 < 6
    · rw [if_pos k6] at hw ⊢
      rw [if_pos k6]
      by_cases k7 : d < 60 ∧ t.2.1 < 10005 ∧ t.2.2 < 10005
      · rw [if_pos k7] at hw
        rw [ho _ k7.2.1, ho _ k7.2.2]
        exact ih _ _ r hw
      · rw [if_neg k7] at hw; exact absurd hw (by simp)
    · rw [if_neg k6] at hw ⊢
      rw [if_neg k6]
      by_cases k6' : t.1 = 6
      · rw [if_pos k6'] at hw ⊢
        rw [if_pos k6']
        split at hw
        · exact ih _ _ r hw
        · exact absurd hw (by simp)
      · rw [if_neg k6'] at hw ⊢
        rw [if_neg k6']
        split at hw
        · split at hw
          · exact ih _ _ r hw
          · exact absurd hw (by simp)
        · exact absurd hw (by simp)
section CO
variable {w v : jW} {A : Nat → Int32} {c : Nat → Nat} {K : Nat} {d : Int32}
/-- the world when a thing is looked at -/
def lkw (w : jW) (A : Nat → Int32) (th : Nat) (kl : Int32) : jW := (fun b j => if b = 23 ∧ j < 5 then menv A th kl j else w.1 b j, w.2)
theorem lkw_ne {b th : Nat} {kl : Int32} (h : b ≠ 23) : (lkw w A th kl).1 b = w.1 b := funext fun j => if_neg (fun z => h z.1)
theorem lkw_Sq {th : Nat} {kl : Int32} : Sq (lkw w A th kl) w := ⟨fun b q => lkw_ne (fun z => by rw [z] at q; exact absurd q (by decide)), fun j _ => congrFun (lkw_ne (by decide)) j⟩
theorem c_look (H : RA w 3 A c K) {th : Nat} {kl : Int32} (ht : th < c 3) : f_Treaty_look 10 (nI th) kl w = some (lkw w A th kl) := by
  have up : ∀ (u : jW) (j : Nat) (x : Int32), RA u 3 A c K → RA (jup u.1 23 j x, u.2) 3 A c K := fun u j x h => RA_fr h (fun b h1 h2 h3 => jup_fn h3)
  have see : ∀ (u : jW) (j : Nat) (x : Int32), j < 5 → f_Treaty_see (nI (13 + j)) x u = some (jup u.1 23 j x, u.2) := fun u j x hj => by
    have e : (nI (13 + j) - 13 : Int32) = nI j := by rw [show (13 : Int32) = nI 13 from rfl, nI_sub (by omega), show 13 + j - 13 = j by omega]
    rw [f_Treaty_see, e, if_neg (nI_pos (by omega)), nI_rfl 5, if_pos (nI_lt hj (by omega)), jal_c, jin_nI (by omega) (by omega), nI_clamp (by omega)]
    rfl
  have s0 := fun u x => see u 0 x (by omega)
  have s1 := fun u x => see u 1 x (by omega)
  have s2 := fun u x => see u 2 x (by omega)
  have s3 := fun u x => see u 3 x (by omega)
  have s4 := fun u x => see u 4 x (by omega)
  rw [f_Treaty_look, a_th0 H ht, ob, show (13 : Int32) = nI (13 + 0) from rfl, s0, ob]
  have H1 := up w 0 (A (240 + 12 * th)) H
  rw [a_th1 H1 ht, ob, show (14 : Int32) = nI (13 + 1) from rfl, s1, ob]
  have H2 := up _ 1 (A (240 + 12 * th + 1)) H1
  rw [a_th2 H2 ht, ob, show (15 : Int32) = nI (13 + 2) from rfl, s2, ob]
  have H3 := up _ 2 (A (240 + 12 * th + 2)) H2
  rw [show (16 : Int32) = nI (13 + 3) from rfl, s3, ob]
  have H4 := up _ 3 kl H3
  rw [a_th3 H4 ht, ob, show (17 : Int32) = nI (13 + 4) from rfl, s4, ob]
  congr 1
  refine Prod.ext (funext fun b => funext fun j => ?_) rfl
  dsimp only [lkw]
  rw [jup_ap, jup_ap, jup_ap, jup_ap, jup_ap, menv]
  by_cases e : b = 23
  · by_cases e0 : j = 0
    · simp [e, e0]
    · by_cases e1 : j = 1
      · simp [e, e1]
      · by_cases e2 : j = 2
        · simp [e, e2]
        · by_cases e3 : j = 3
          · simp [e, e3]
          · by_cases e4 : j = 4
            · simp [e, e4]
            · rw [if_neg (by omega), if_neg (by omega), if_neg (by omega), if_neg (by omega), if_neg (by omega), if_neg (by omega)]
  · rw [if_neg (fun z => e z.1), if_neg (fun z => e z.1), if_neg (fun z => e z.1), if_neg (fun z => e z.1), if_neg (fun z => e z.1), if_neg (fun z => e z.1)]
theorem c_some_none (H : RA v 3 A c K) {x : Int32} : f_Treaty_someHolds (-1) x v = some (0, v) := by
  obtain ⟨cs, ks, j1, -⟩ := tx_un H
  rw [f_Treaty_someHolds, r_at_row j1 (Or.inl (by decide)), ob]
  dsimp only
  rw [show jfu = 29999 + 1 from rfl, f_Treaty_someHolds_h10, r_at_row j1 (Or.inl (by decide)), ob]
  dsimp only
  rw [if_neg (by decide)]
/-- the places a thing can be at -/
theorem mwh_c (H : RA w 3 A c K) {t : Nat} (ht : t < c 3) : ∃ p, mwh A (c 4) t d = nI p ∧ (p < c 1 ∨ p = 100 ∨ p = 101 ∨ p = 102) := by
  have hp : ∀ n, n ≤ c 4 → ∃ p, plc A t d (A (240 + 12 * t + 5)) n = nI p ∧ (p < c 1 ∨ p = 100) := by
    intro n
    induction n with
    | zero =>
      intro _
      obtain ⟨s, h1, h2, -⟩ := (p_Ithing H).1 t ht
      exact ⟨s, h1, Or.inl h2⟩
    | succ n ih =>
      intro hn
      rw [plc]
      obtain ⟨t1, x, y, d1, e, h1, h2, h3, h4, h5, h6, h7, h8, h9⟩ := p_Imove H n (by omega)
      by_cases q : A (720 + 8 * n) = nI t ∧ A (720 + 8 * n + 1) ≤ d
      · rw [if_pos q]
        by_cases q2 : d < A (720 + 8 * n + 4)
        · rw [if_pos q2]; exact ⟨100, rfl, Or.inr rfl⟩
        · rw [if_neg q2]; exact ⟨y, h4, Or.inl h8⟩
      · rw [if_neg q]; exact ih (by omega)
  rw [mwh]
  by_cases q1 : d < A (240 + 12 * t + 4)
  · rw [if_pos q1]; exact ⟨102, rfl, by omega⟩
  · rw [if_neg q1]
    split
    · exact ⟨101, rfl, by omega⟩
    · have hm := msc_plc A t d (A (240 + 12 * t + 5)) (c 4) 0
      rw [Nat.zero_add] at hm
      obtain ⟨p, e1, e2⟩ := hp (c 4) (Nat.le_refl _)
      exact ⟨p, by rw [← e1, ← hm]; rfl, by omega⟩
theorem c_pl (H : RA w 3 A c K) {t : Nat} (ht : t < c 3) : f_State_placeOn (nI t) d w = some (mwh A (c 4) t d, w) := by
  obtain ⟨s, h1, h2, h3, h4, h5, h6, h7, h8, h9, h10⟩ := (p_Ithing H).1 t ht
  refine c_place (p_Rthing H) (p_Rmove H) (p_Rchain H) (h_3 H) (l_3 H) (h_4 H) (l_4 H) ht ?_
  rcases h9 with e | ⟨n, e, _, q⟩
  · exact Or.inl e
  · have := l_0 H; exact Or.inr (by rw [e]; exact nI_pos (by omega))
/-- the class of a place -/
def klo (A : Nat → Int32) (p : Nat) : Int32 := if p < 100 then A (40 + 8 * p + 1) else 4
/-- only the looked-at fields differ -/
def X23 (v w : jW) : Prop := ∀ b, b ≠ 23 → v.1 b = w.1 b
theorem X23_t {u : jW} (h : X23 u v) (g : X23 v w) : X23 u w := fun b q => (h b q).trans (g b q)
theorem X23_Sq (h : X23 v w) : Sq v w := ⟨fun b q => h b (fun z => by rw [z] at q; exact absurd q (by decide)), fun j _ => congrFun (h 93 (by omega)) j⟩
end CO


/-! LAYER B: the class's search of a word -/
section SC
variable {w v z0 : jW} {P : Nat → Int32} {n : Nat}
/-- the class's tape -/
def Tc (w : jW) (P : Nat → Int32) (n : Nat) : Prop := JR w 79 1 300 n ∧ ∀ k, k < n → w.1 80 k = P k
theorem c_at79 (h : Tc w P n) {p : Nat} (hp : p ≤ 1000) : f_Rows_at 79 (nI p) 0 w = some (svF P n p, w) := by
  have h3 := h.1.2.2.1
  unfold svF
  by_cases g : p < n
  · rw [if_pos g, show f_Rows_at 79 (nI p) 0 w = _ from r_at h.1 (j := 0) g (by omega), ← h.2 p g]
    rw [Nat.mul_one]
    rfl
  · rw [if_neg g, r_at_row h.1 (Or.inr (nI_nlt (by omega) (by omega)))]
def wsc (P : Nat → Int32) (n s len : Nat) : List Int32 → Nat → Option Nat → Int32
  | [], _, _ => 29
  | c :: l, i, k => if c = 32 then (if k = some len then nI i else wsc P n s len l (i + 1) (some 0)) else match k with
    | none => wsc P n s len l i none
    | some j => if svF P n (s + j) = c then wsc P n s len l i (some (j + 1)) else wsc P n s len l i none
theorem wsc_32 {s len i : Nat} {l : List Int32} {k : Option Nat} : wsc P n s len (32 :: l) i k = if k = some len then nI i else wsc P n s len l (i + 1) (some 0) := by
  cases k
  · rw [wsc, if_pos rfl]
  · rw [wsc, if_pos rfl]
theorem wsc_n {s len i : Nat} {l : List Int32} {ch : Int32} (h : ¬ ch = 32) : wsc P n s len (ch :: l) i none = wsc P n s len l i none := by rw [wsc, if_neg h]
theorem wsc_s {s len i j : Nat} {l : List Int32} {ch : Int32} (h : ¬ ch = 32) : wsc P n s len (ch :: l) i (some j) = if svF P n (s + j) = ch then wsc P n s len l i (some (j + 1)) else wsc P n s len l i none := by rw [wsc, if_neg h]
def okm : Option Nat → Int32
  | none => -1
  | some j => nI j
theorem c_h55 (h : Tc w P n) {s len : Nat} (h78 : w.1 78 2 = nI (s + len)) (hs : s ≤ 300) (hl : len ≤ 300) : ∀ m q i f k, q + m = 97 → m < f → i ≤ q → (∀ j, k = some j → j ≤ q) → f_Tokens_takeWord_h55 f (nI s) (nI i) (okm k) (nI q) w = some (wsc P n s len (jwb.drop q) i k, w) := by
  intro m
  induction m with
  | zero =>
    intro q i f k hq hf hi hk
    obtain ⟨f, rfl⟩ : ∃ j, f = j + 1 := ⟨f - 1, by omega⟩
    rw [f_Tokens_takeWord_h55, show q = 97 by omega, if_neg (show ¬ nI 97 < 97 by decide), show jwb.drop 97 = [] from by decide]; rfl
  | succ m ih =>
    intro q i f k hq hf hi hk
    obtain ⟨f, rfl⟩ : ∃ j, f = j + 1 := ⟨f - 1, by omega⟩
    have hlen : jwb.length = 97 := by decide
    have ed : jwb.drop q = jwb.getD q 0 :: jwb.drop (q + 1) := by
      rw [List.drop_eq_getElem_cons (by omega), List.getD_eq_getElem?_getD, List.getElem?_eq_getElem (by omega)]; rfl
    rw [f_Tokens_takeWord_h55, if_pos (show nI q < 97 from nI_lt (b := 97) (by omega) (by omega)), jin_nI (by omega) (by omega), if_pos rfl, nI_clamp (by omega), h78, nI_sub (by omega), show s + len - s = len by omega, ed]
    have ej : jwd q = jwb.getD q 0 := rfl
    rw [ej]
    generalize jwb.getD q 0 = ch
    by_cases g : ch = 32
    · rw [if_pos g, g, wsc_32]
      cases k with
      | none =>
        rw [okm, if_neg (fun z => nI_ne_m1 (n := len) (by omega) z.symm), if_neg (by simp), ip_1, ip_1]
        exact ih (q + 1) (i + 1) f (some 0) (by omega) (by omega) (by omega) (fun j hj => by simp at hj; omega)
      | some j =>
        have := hk j rfl
        rw [okm]
        by_cases z : j = len
        · rw [if_pos (by rw [z]), if_pos (by rw [z])]
        · rw [if_neg (nI_ne' (by omega) (by omega) z), if_neg (by simpa using z), ip_1, ip_1]
          exact ih (q + 1) (i + 1) f (some 0) (by omega) (by omega) (by omega) (fun j hj => by simp at hj; omega)
    rw [if_neg g]
    cases k with
    | none =>
      rw [okm, if_pos rfl, ip_1, wsc_n g]
      exact ih (q + 1) i f none (by omega) (by omega) (by omega) (fun j hj => by simp at hj)
    | some j =>
      have := hk j rfl
      rw [okm, if_neg (nI_ne_m1 (by omega)), nI_add, c_at79 h (by omega), ob, wsc_s g]
      dsimp only
      by_cases z : svF P n (s + j) = ch
      · rw [if_pos z, if_pos z, ip_1, ip_1]
        exact ih (q + 1) i f (some (j + 1)) (by omega) (by omega) (by omega) (fun j' hj => by simp at hj; omega)
      · rw [if_neg z, if_neg z, ip_1]
        exact ih (q + 1) i f none (by omega) (by omega) (by omega) (fun j hj => by simp at hj)
theorem wsc_none {s len i : Nat} {l : List Int32} : ∀ W : List Nat, (∀ a ∈ W, 65 ≤ a ∧ a ≤ 122) → wsc P n s len (W.map nI ++ 32 :: l) i none = wsc P n s len l (i + 1) (some 0) := by
  intro W
  induction W with
  | nil => intro _; show wsc P n s len (32 :: l) i none = _; rw [wsc, if_pos rfl, if_neg (by simp)]
  | cons a W ih =>
    intro h
    have ha := h a (by simp)
    have : ¬ nI a = 32 := nI_ne' (b := 32) (by omega) (by omega) (by omega)
    rw [List.map_cons, List.cons_append, wsc, if_neg this]
    exact ih (fun x hx => h x (by simp [hx]))
theorem lt_le {a : Nat} (h : ltB (nI a) = true) : True := trivial
theorem ltF_s {p : Nat} (h : ltB (svF P n p) = true) (hp : p < n) : ltF P n (n - p) p = (svF P n p).toNatClampNeg :: ltF P n (n - (p + 1)) (p + 1) := by
  rw [show n - p = (n - (p + 1)) + 1 by omega, ltF, if_pos h]
theorem ltF_e {p : Nat} (h : ¬ ltB (svF P n p) = true) : ltF P n (n - p) p = [] := by
  cases hq : n - p with
  | zero => rfl
  | succ m => rw [ltF, if_neg h]
/-- a listed word: of letters -/
def lwd (W : List Nat) : Prop := ∀ a ∈ W, (65 ≤ a ∧ a ≤ 122) ∧ ltB (nI a) = true
theorem wsc_word {s e i : Nat} {l : List Int32} : ∀ (W : List Nat) p, lwd W → s ≤ p → p ≤ e → rn ltB P n p = e → e ≤ n → wsc P n s (e - s) (W.map nI ++ 32 :: l) i (some (p - s)) = if W = ltF P n (n - p) p then nI i else wsc P n s (e - s) l (i + 1) (some 0) := by
  intro W
  induction W with
  | nil =>
    intro p hW hs hp he hn
    show wsc P n s (e - s) (32 :: l) i (some (p - s)) = _
    rw [wsc, if_pos rfl]
    by_cases g : ltB (svF P n p) = true
    · have hpn : p < n := by
        by_cases z : p < n
        · exact z
        · rw [svF_n (by omega)] at g; exact absurd g (by decide)
      have := (rn_b (g := ltB) (P := P) (p := p + 1) (n := n) (by omega)).1
      rw [rn_s g hpn] at he
      rw [ltF_s g hpn, if_neg (by simp; omega), if_neg (by simp)]
    · rw [rn_e g] at he
      rw [ltF_e g, if_pos (by rw [he]), if_pos rfl]
  | cons a W ih =>
    intro p hW hs hp he hn
    obtain ⟨⟨a1, a2⟩, a3⟩ := hW a (by simp)
    have hW' : lwd W := fun x hx => hW x (by simp [hx])
    have n32 : ¬ nI a = 32 := nI_ne' (b := 32) (by omega) (by omega) (by omega)
    rw [List.map_cons, List.cons_append, wsc_s n32, show s + (p - s) = p by omega]
    by_cases g : svF P n p = nI a
    · have gl : ltB (svF P n p) = true := by rw [g]; exact a3
      have hpn : p < n := by
        by_cases z : p < n
        · exact z
        · rw [svF_n (by omega)] at gl; exact absurd gl (by decide)
      have hb := (rn_b (g := ltB) (P := P) (p := p + 1) (n := n) (by omega)).1
      rw [rn_s gl hpn] at he
      rw [if_pos g, show p - s + 1 = p + 1 - s by omega, ih (p + 1) hW' (by omega) (by omega) he hn, ltF_s gl hpn, g, nI_clamp (by omega)]
      by_cases z : W = ltF P n (n - (p + 1)) (p + 1)
      · rw [if_pos z, if_pos (by rw [← z])]
      · rw [if_neg z, if_neg (by simpa using z)]
    · rw [if_neg g, wsc_none W (fun x hx => (hW' x hx).1), if_neg]
      intro z
      by_cases gl : ltB (svF P n p) = true
      · have hpn : p < n := by
          by_cases y : p < n
          · exact y
          · rw [svF_n (by omega)] at gl; exact absurd gl (by decide)
        obtain ⟨b, b1, b2, b3⟩ := lt_n gl
        rw [ltF_s gl hpn, b1, nI_clamp (by omega)] at z
        injection z with z1 z2
        exact g (by rw [b1, z1])
      · rw [ltF_e gl] at z; exact absurd z (by simp)
/-- the listed words -/
def wls : List (List Nat) := [[99, 111, 117, 110, 116, 115], [108, 105, 109, 105, 116], [116, 101, 108, 108], [118, 105, 115, 105, 116, 115], [118, 101, 105, 108], [115, 116, 101, 112, 115], [97, 110, 115, 119, 101, 114], [102, 114, 111, 109], [116, 111], [119, 97, 105, 116], [111, 114], [97, 110, 100], [110, 111, 116], [115, 111, 114, 116], [108, 101, 110, 103, 116, 104], [119, 101, 105, 103, 104, 116], [99, 108, 97, 115, 115], [108, 97, 110, 100]]
def flw : List (List Nat) → List Int32
  | [] => []
  | W :: r => W.map nI ++ 32 :: flw r
theorem wls_ok : flw wls = jwb := by decide
theorem wls_l : ∀ W ∈ wls, ∀ a ∈ W, (65 ≤ a ∧ a ≤ 122) ∧ ltB (nI a) = true := by decide
def ixF (L : List Nat) : List (List Nat) → Nat → Int32
  | [], _ => 29
  | W :: r, i => if W = L then nI i else ixF L r (i + 1)
theorem wsc_ix {s e : Nat} (hs : rn ltB P n s = e) (he : e ≤ n) (hse : s ≤ e) : ∀ (r : List (List Nat)) i, (∀ W ∈ r, lwd W) → wsc P n s (e - s) (flw r) i (some 0) = ixF (ltF P n (n - s) s) r i := by
  intro r
  induction r with
  | nil => intro i _; rfl
  | cons W r ih =>
    intro i h
    have := wsc_word (P := P) (n := n) (i := i) (l := flw r) W s (h W (by simp)) (Nat.le_refl s) hse hs he
    rw [Nat.sub_self] at this
    rw [flw, this, ixF, ih (i + 1) (fun V hV => h V (by simp [hV]))]
/-- the class's kind of the word that starts at s -/
theorem c_j48 (h : Tc w P n) {s : Nat} (hs : s ≤ n) (h78 : w.1 78 2 = nI (rn ltB P n s)) : f_Tokens_takeWord_j48 (nI s) w = some (ixF (ltF P n (n - s) s) wls 0, w) := by
  have h3 := h.1.2.2.1
  have hb := rn_b (g := ltB) (P := P) hs
  have e := c_h55 h (s := s) (len := rn ltB P n s - s) (by rw [h78, show s + (rn ltB P n s - s) = rn ltB P n s by omega]) (by omega) (by omega) 97 0 0 jfu (some 0) (by omega) (by unfold jfu; omega) (by omega) (fun j hj => by simp at hj; omega)
  rw [List.drop_zero, ← wls_ok, wsc_ix rfl hb.2 hb.1 wls 0 (fun W hW => wls_l W hW)] at e
  exact e
end SC

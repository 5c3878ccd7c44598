/-! LAYER B: what was told -/
def tlb (A : Nat → Int32) (n : Nat) : Option Nat → Option Nat
  | none => some n
  | some r => if A (9680 + 8 * n + 2) < A (9680 + 8 * r + 2) then some r else some n
/-- the row by which a thing's place is known -/
def tl (A : Nat → Int32) (t : Nat) (d kn : Int32) : Nat → Option Nat
  | 0 => none
  | n + 1 => if A (9680 + 8 * n) = nI t then (if A (9680 + 8 * n + 2) ≤ d then (if A (9680 + 8 * n + 3) ≤ kn then tlb A n (tl A t d kn n) else tl A t d kn n) else tl A t d kn n) else tl A t d kn n
def oi : Option Nat → Int32
  | none => -1
  | some r => nI r
def om : Option Nat → Int32
  | none => -1
  | some r => nI (9680 + 8 * r)
def tlp (A : Nat → Int32) : Option Nat → Int32
  | none => -1
  | some r => A (9680 + 8 * r + 1)
theorem tl_lt {A : Nat → Int32} {t : Nat} {d kn : Int32} : ∀ n r, tl A t d kn n = some r → r < n := by
  intro n
  induction n with
  | zero => intro r h; exact absurd h (by simp [tl])
  | succ n ih =>
    intro r h
    rw [tl] at h
    have hb : tlb A n (tl A t d kn n) = some r → r < n + 1 := by
      cases e : tl A t d kn n with
      | none => intro q; rw [tlb] at q; injection q with q; omega
      | some u =>
        intro q
        rw [tlb] at q
        have := ih u e
        split at q <;> (injection q with q; omega)
    repeat' split at h
    · exact hb h
    all_goals (have := ih r h; omega)
section TO
variable {w : jW} {A : Nat → Int32} {c : Nat → Nat} {K : Nat} {d kn : Int32}
/-- how many of the first n things of a sort are told to be at x -/
def ntd (A : Nat → Int32) (no : Nat) (x s d kn : Int32) : Nat → Nat
  | 0 => 0
  | n + 1 => ntd A no x s d kn n + if A (240 + 12 * n) = s ∧ tlp A (tl A n d kn no) = x then 1 else 0
theorem ntd_le {no : Nat} {x s : Int32} : ∀ n, ntd A no x s d kn n ≤ n := by
  intro n
  induction n with
  | zero => exact Nat.le_refl _
  | succ n ih => rw [ntd]; split <;> omega
/-- the class's memory of what it heard of the first n rows -/
def hrd (w : jW) (A : Nat → Int32) (d kn : Int32) (n : Nat) : jW := (fun b j => if b = 85 ∧ j < 40 then oi (tl A j d kn n) else w.1 b j, w.2)
theorem hrd_ne {n b : Nat} (h : b ≠ 85) : (hrd w A d kn n).1 b = w.1 b := funext fun j => if_neg (fun z => h z.1)
theorem hrd_at {n j : Nat} (h : j < 40) : (hrd w A d kn n).1 85 j = oi (tl A j d kn n) := if_pos ⟨rfl, h⟩
theorem hrd_RA (H : RA w 3 A c K) {n : Nat} : RA (hrd w A d kn n) 3 A c K := RA_fr H (fun b _ h _ => hrd_ne (by omega))
theorem hrd_s {n t : Nat} (ht : t < 40) (h : A (9680 + 8 * n) = nI t) : hrd w A d kn (n + 1) = (jup (hrd w A d kn n).1 85 t (oi (tl A t d kn (n + 1))), (hrd w A d kn n).2) := by
  refine Prod.ext (funext fun b => funext fun j => ?_) rfl
  dsimp only
  rw [jup_ap]
  by_cases e : b = 85 ∧ j = t
  · rw [if_pos e, e.1, e.2, hrd_at ht]
  · rw [if_neg e]
    by_cases q : b = 85 ∧ j < 40
    · rw [q.1, hrd_at q.2, hrd_at q.2, tl, h, if_neg]
      intro z
      have := (nI_eq (by omega) (by omega)).mp z
      exact e ⟨q.1, this.symm⟩
    · show (if b = 85 ∧ j < 40 then _ else _) = (if b = 85 ∧ j < 40 then _ else _)
      rw [if_neg q, if_neg q]
theorem jup_same {f : Nat → Nat → Int32} {a k : Nat} {x : Int32} (h : f a k = x) : jup f a k x = f := by
  funext b j
  rw [jup_ap]
  split
  · next q => rw [q.1, q.2, h]
  · rfl
theorem hrd_u {n t : Nat} (ht : t < 40) (h : A (9680 + 8 * n) = nI t) (e : tl A t d kn (n + 1) = tl A t d kn n) : hrd w A d kn (n + 1) = hrd w A d kn n := by
  rw [hrd_s ht h, e, jup_same (hrd_at ht)]
theorem c_hear_h30 (H : RA w 3 A c K) : ∀ (m k f : Nat), k + m = c 7 → m < f → f_Knowing_hear_h30 f d kn (nI k) (hrd w A d kn k) = some (hrd w A d kn (c 7)) := by
  have l7 := l_7 H
  intro m
  induction m with
  | zero =>
    intro k f hk hf
    obtain ⟨f, rfl⟩ : ∃ j, f = j + 1 := ⟨f - 1, by omega⟩
    have G := hrd_RA (d := d) (kn := kn) (n := k) H
    rw [f_Knowing_hear_h30, n_to G, ob]
    dsimp only
    rw [if_neg (nI_nlt (by omega) (by omega)), show k = c 7 by omega]
  | succ m ih =>
    intro k f hk hf
    obtain ⟨f, rfl⟩ : ∃ j, f = j + 1 := ⟨f - 1, by omega⟩
    have G := hrd_RA (d := d) (kn := kn) (n := k) H
    have ih' := ih (k + 1) f (by omega) (by omega)
    obtain ⟨t, p, fr, dy, g1, g2, g3, g4, g5, g6, g7, g8⟩ := p_Itold H k (by omega)
    have l3 := l_3 H
    have l0 := l_0 H
    have ht : t < 40 := by omega
    rw [f_Knowing_hear_h30, n_to G, ob]
    dsimp only
    have e40 : nI t < Int32.ofNat 40 := nI_lt ht (by omega)
    rw [if_pos (nI_lt (by omega) (by omega)), a_to0 G (by omega), ob]
    dsimp only
    rw [a_to2 G (by omega), ob, g1, if_neg (nI_pos (by omega)), if_pos e40]
    dsimp only
    rw [a_to3 G (by omega), ob, ip_1]
    dsimp only
    rw [if_pos (show jal [jin (nI t) 40] = true by rw [jal_c, jin_nI ht (by omega)]; rfl), nI_clamp (by omega)]
    have et : tl A t d kn (k + 1) = if A (9680 + 8 * k + 2) ≤ d then (if A (9680 + 8 * k + 3) ≤ kn then tlb A k (tl A t d kn k) else tl A t d kn k) else tl A t d kn k := by
      rw [tl, if_pos g1]
    by_cases c2 : A (9680 + 8 * k + 2) ≤ d
    · rw [if_pos c2] at et ⊢
      by_cases c3 : A (9680 + 8 * k + 3) ≤ kn
      · rw [if_pos c3] at et ⊢
        rw [hrd_at ht]
        cases e : tl A t d kn k with
        | none =>
          rw [e] at et
          rw [oi, x_to G (Or.inl (by decide)), ob]
          dsimp only
          rw [if_neg (by rw [g3]; intro z; exact nI_pos (by omega) (Int32.lt_trans z (by decide)))]
          rw [show jup (hrd w A d kn k).1 85 t (nI k) = jup (hrd w A d kn k).1 85 t (oi (tl A t d kn (k + 1))) by rw [et]; rfl, ← hrd_s ht g1, if_pos (show jal [jin (nI t) 40] = true by rw [jal_c, jin_nI ht (by omega)]; rfl)]
          exact ih'
        | some r =>
          have hr := tl_lt k r e
          rw [e] at et
          rw [oi, a_to2 G (show r < c 7 by omega), ob]
          dsimp only
          rw [tlb] at et
          by_cases c4 : A (9680 + 8 * k + 2) < A (9680 + 8 * r + 2)
          · rw [if_pos c4] at et ⊢
            rw [hrd_u ht g1 (et.trans e.symm)] at ih'
            exact ih'
          · rw [if_neg c4] at et ⊢
            rw [show jup (hrd w A d kn k).1 85 t (nI k) = jup (hrd w A d kn k).1 85 t (oi (tl A t d kn (k + 1))) by rw [et]; rfl, ← hrd_s ht g1, if_pos (show jal [jin (nI t) 40] = true by rw [jal_c, jin_nI ht (by omega)]; rfl)]
            exact ih'
      · rw [if_neg c3] at et ⊢
        rw [hrd_u ht g1 et] at ih'; exact ih'
    · rw [if_neg c2] at et ⊢
      rw [hrd_u ht g1 et] at ih'; exact ih'
theorem c_hear_h3 (H : RA w 3 A c K) : ∀ (m k f : Nat), k + m = 40 → m < f → f_Knowing_hear_h3 f d kn (nI k) (fun b j => if b = 85 ∧ j < k then -1 else w.1 b j, w.2) = some (hrd w A d kn (c 7)) := by
  intro m
  induction m with
  | zero =>
    intro k f hk hf
    obtain ⟨f, rfl⟩ : ∃ j, f = j + 1 := ⟨f - 1, by omega⟩
    rw [f_Knowing_hear_h3, nI_rfl 40, if_neg (nI_nlt (by omega) (by omega)), show k = 40 by omega]
    exact c_hear_h30 H (c 7) 0 jfu (by omega) (by have := l_7 H; unfold jfu; omega)
  | succ m ih =>
    intro k f hk hf
    obtain ⟨f, rfl⟩ : ∃ j, f = j + 1 := ⟨f - 1, by omega⟩
    rw [f_Knowing_hear_h3, nI_rfl 40, if_pos (nI_lt (by omega) (by omega))]
    simp (disch := omega) only [ia_1, ia_2, ia_3, ia_4, ia_5, ia_6, ia_7, ia_8, ia_9, ia_20, ia_40, ia_120, ia_140, ia_240, ia_720, ia_1520, ia_1680, ia_9680, ia_11280, ia_12480, ia_12880, ia_13080, ia_20760, ia_20880, ip_0, ip_1, ip_2, ip_3, ip_4, ip_5, ip_6, ip_7, ip_8, ip_9, ip_140, im_2, im_4, im_8, im_12, im_800, nI_clamp, jin_nI, jal_c, jal_n, Bool.and_true, if_true, ob, jlw_e, jk_0, jk_1, jk_2, jk_3, jk_4, jk_5, jk_6, jk_7, jk_8, jk_9, jk_10, jk_11, jk_12, jk_13, jk_14, jk_15, jk_16, jk_17, jk_18, jk_19, jg_0, jg_1, jg_2, jg_3, jg_4, jg_5, jg_6, jg_7, jg_8, jg_9, jg_10, jg_11, jg_12, jg_13, jg_14, jg_15, jg_16, jg_17, jg_18, jg_19]
    rw [← ih (k + 1) f (by omega) (by omega)]
    congr 1
    refine Prod.ext (funext fun b => funext fun j => ?_) rfl
    dsimp only
    rw [jup_ap]
    by_cases e : b = 85 ∧ j = k
    · rw [if_pos e, if_pos ⟨e.1, by omega⟩]
    · rw [if_neg e]
      by_cases q : b = 85 ∧ j < k
      · rw [if_pos q, if_pos ⟨q.1, by omega⟩]
      · rw [if_neg q, if_neg (by omega)]
theorem c_hear (H : RA w 3 A c K) : f_Knowing_hear d kn w = some (hrd w A d kn (c 7)) := by
  rw [f_Knowing_hear]
  have := c_hear_h3 (d := d) (kn := kn) H 40 0 jfu (by omega) (by unfold jfu; omega)
  rw [show ((fun b j => if b = 85 ∧ j < 0 then -1 else w.1 b j, w.2) : jW) = w from Prod.ext (funext fun b => funext fun j => if_neg (by omega)) rfl] at this
  exact this
/-- a world that has heard -/
def Hrd (v : jW) (A : Nat → Int32) (c : Nat → Nat) (d kn : Int32) : Prop := ∀ t, t < 40 → v.1 85 t = oi (tl A t d kn (c 7))
theorem c_placeT (H : RA w 3 A c K) (hh : Hrd w A c d kn) {t : Nat} (ht : t < 40) : f_Knowing_placeTold (nI t) w = some (tlp A (tl A t d kn (c 7)), w) := by
  rw [f_Knowing_placeTold, if_neg (nI_pos (by omega)), nI_rfl 40, if_pos (nI_lt ht (by omega))]
  simp (disch := omega) only [ia_1, ia_2, ia_3, ia_4, ia_5, ia_6, ia_7, ia_8, ia_9, ia_20, ia_40, ia_120, ia_140, ia_240, ia_720, ia_1520, ia_1680, ia_9680, ia_11280, ia_12480, ia_12880, ia_13080, ia_20760, ia_20880, ip_0, ip_1, ip_2, ip_3, ip_4, ip_5, ip_6, ip_7, ip_8, ip_9, ip_140, im_2, im_4, im_8, im_12, im_800, nI_clamp, jin_nI, jal_c, jal_n, Bool.and_true, if_true, ob, jlw_e, jk_0, jk_1, jk_2, jk_3, jk_4, jk_5, jk_6, jk_7, jk_8, jk_9, jk_10, jk_11, jk_12, jk_13, jk_14, jk_15, jk_16, jk_17, jk_18, jk_19, jg_0, jg_1, jg_2, jg_3, jg_4, jg_5, jg_6, jg_7, jg_8, jg_9, jg_10, jg_11, jg_12, jg_13, jg_14, jg_15, jg_16, jg_17, jg_18, jg_19]
  rw [hh t ht]
  cases e : tl A t d kn (c 7) with
  | none => rw [oi, x_to H (Or.inl (by decide)), ob]; rfl
  | some r => rw [oi, a_to1 H (tl_lt _ r e), ob]; rfl
theorem c_numT_h (H : RA w 3 A c K) (hh : Hrd w A c d kn) {x s : Int32} : ∀ (m k f : Nat), k + m = c 3 → m < f → f_Knowing_numberTold_h6 f x s (nI (ntd A (c 7) x s d kn k)) (nI k) w = some (nI (ntd A (c 7) x s d kn (c 3)), w) := by
  have l3 := l_3 H
  intro m
  induction m with
  | zero =>
    intro k f hk hf
    obtain ⟨f, rfl⟩ : ∃ j, f = j + 1 := ⟨f - 1, by omega⟩
    rw [f_Knowing_numberTold_h6]
    simp (disch := omega) only [ia_1, ia_2, ia_3, ia_4, ia_5, ia_6, ia_7, ia_8, ia_9, ia_20, ia_40, ia_120, ia_140, ia_240, ia_720, ia_1520, ia_1680, ia_9680, ia_11280, ia_12480, ia_12880, ia_13080, ia_20760, ia_20880, ip_0, ip_1, ip_2, ip_3, ip_4, ip_5, ip_6, ip_7, ip_8, ip_9, ip_140, im_2, im_4, im_8, im_12, im_800, nI_clamp, jin_nI, jal_c, jal_n, Bool.and_true, if_true, ob, jlw_e, jk_0, jk_1, jk_2, jk_3, jk_4, jk_5, jk_6, jk_7, jk_8, jk_9, jk_10, jk_11, jk_12, jk_13, jk_14, jk_15, jk_16, jk_17, jk_18, jk_19, jg_0, jg_1, jg_2, jg_3, jg_4, jg_5, jg_6, jg_7, jg_8, jg_9, jg_10, jg_11, jg_12, jg_13, jg_14, jg_15, jg_16, jg_17, jg_18, jg_19, n_th H, a_th0 H, a_th1 H, a_th2 H, a_th3 H, a_th4 H, a_th5 H, a_th6 H, a_th7 H, a_th8 H, a_th9 H, a_th10 H, ii_lt]
    rw [if_neg (by omega), show k = c 3 by omega]
  | succ m ih =>
    intro k f hk hf
    obtain ⟨f, rfl⟩ : ∃ j, f = j + 1 := ⟨f - 1, by omega⟩
    have ih' := ih (k + 1) f (by omega) (by omega)
    rw [ntd] at ih'
    rw [f_Knowing_numberTold_h6]
    simp (disch := omega) only [ia_1, ia_2, ia_3, ia_4, ia_5, ia_6, ia_7, ia_8, ia_9, ia_20, ia_40, ia_120, ia_140, ia_240, ia_720, ia_1520, ia_1680, ia_9680, ia_11280, ia_12480, ia_12880, ia_13080, ia_20760, ia_20880, ip_0, ip_1, ip_2, ip_3, ip_4, ip_5, ip_6, ip_7, ip_8, ip_9, ip_140, im_2, im_4, im_8, im_12, im_800, nI_clamp, jin_nI, jal_c, jal_n, Bool.and_true, if_true, ob, jlw_e, jk_0, jk_1, jk_2, jk_3, jk_4, jk_5, jk_6, jk_7, jk_8, jk_9, jk_10, jk_11, jk_12, jk_13, jk_14, jk_15, jk_16, jk_17, jk_18, jk_19, jg_0, jg_1, jg_2, jg_3, jg_4, jg_5, jg_6, jg_7, jg_8, jg_9, jg_10, jg_11, jg_12, jg_13, jg_14, jg_15, jg_16, jg_17, jg_18, jg_19, n_th H, a_th0 H, a_th1 H, a_th2 H, a_th3 H, a_th4 H, a_th5 H, a_th6 H, a_th7 H, a_th8 H, a_th9 H, a_th10 H, ii_lt, c_placeT H hh]
    rw [if_pos (by omega)]
    by_cases c1 : A (240 + 12 * k) = s
    · rw [if_pos c1]
      by_cases c2 : tlp A (tl A k d kn (c 7)) = x
      · rw [if_pos ⟨c1, c2⟩] at ih'; rw [if_pos c2]; exact ih'
      · rw [if_neg (fun z => c2 z.2)] at ih'; rw [if_neg c2]; exact ih'
    · rw [if_neg (fun z => c1 z.1)] at ih'; rw [if_neg c1]; exact ih'
theorem c_numT (H : RA w 3 A c K) (hh : Hrd w A c d kn) {x s : Int32} : f_Knowing_numberTold x s w = some (nI (ntd A (c 7) x s d kn (c 3)), w) := by
  rw [f_Knowing_numberTold]
  exact c_numT_h H hh (c 3) 0 jfu (by omega) (by have := l_3 H; unfold jfu; omega)
end TO


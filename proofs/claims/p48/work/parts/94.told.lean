/-! LAYER C of p48: places, seals, what is told, what is possible -/
section D1
variable {w v : jW} {A B : Nat → Int32} {c c' : Nat → Nat} {K K' k : Nat} {xs : Nat → Int32} {Ls : Nat}
/-- behind the loop, the first i things told -/
def TS (A : Nat → Int32) (c : Nat → Nat) (i : Nat) : Prop := ∀ t, t < c 3 → (t < i → ∀ p, p < 5 → mwh A (c 4) t (nI (c 0)) = nI p → tlp A (tl A t (nI (c 0)) (nI (c 0)) (c 7)) = nI p) ∧ ((¬ t < i ∨ ∀ p, p < 5 → mwh A (c 4) t (nI (c 0)) ≠ nI p) → tl A t (nI (c 0)) (nI (c 0)) (c 7) = none)
def TFn (w : jW) (A : Nat → Int32) (c : Nat → Nat) (K i : Nat) : Prop := RA w 3 A c K ∧ K ≤ 55 + i ∧ (c 1 = 5 ∧ c 6 = 0 ∧ c 7 ≤ i ∧ c 12 = 0 ∧ c 13 = 0 ∧ c 0 ≤ 160 ∧ c 3 ≤ 8 ∧ c 4 ≤ 16 ∧ c 5 ≤ 8 ∧ c 2 ≤ 6) ∧ STe w A 5 ∧ WY w A c ∧ SYt w A c ∧ SYm w A c ∧ SYs w A c ∧ HI A c ∧ TS A c i
theorem TFn_kp {i : Nat} (h : TFn w A c K i) (kp : Kp v w) (R : RA v 3 A c K) : TFn v A c K i := by
  obtain ⟨h1, h2, h3, h4, ⟨W, h5, h6⟩, h7, h8, h9, h10, h11⟩ := h
  refine ⟨R, h2, h3, fun i hi => ?_, ⟨W, fun a b ha hb => ?_, h6⟩, fun t ht => ?_, fun t ht => ?_, fun t ht => ?_, h10, h11⟩
  · rw [kp 94 (by omega), kp 93 (by omega)]; exact h4 i hi
  · rw [kp 95 (by omega)]; exact h5 a b ha hb
  · rw [kp 98 (by omega)]; exact h7 t ht
  · rw [kp 99 (by omega)]; exact h8 t ht
  · rw [kp 100 (by omega)]; exact h9 t ht
theorem l_1372 (h : LI w A c K 40) {i : Nat} (hi : i < c 3) {K1362 : Int32 → Int32 → Int32 → Int32 → Int32 → jW → Option (Int32 × jW)} : ∀ m d f, d + m = c 0 + 10 → m < f → f_Law_law_h1372 xs Ls K1362 f (nI (c 3)) (nI (c 4)) (nI (c 5)) (nI (c 0)) (nI i) (nI d) w = K1362 (nI (c 3)) (nI (c 4)) (nI (c 5)) (nI (c 0)) (nI (i + 1)) w := by
  obtain ⟨R, ⟨q2, q3⟩, ⟨z1, z6, z7, z10, z12, z13, z0, z3, z4, z5, z8, z9, z2⟩, P, S, hST, hWY, hLL, hT, hM, hSs, hI, hH⟩ := h
  intro m
  induction m with
  | zero =>
    intro d f hd hf
    obtain ⟨f, rfl⟩ : ∃ j, f = j + 1 := ⟨f - 1, by omega⟩
    rw [f_Law_law_h1372, ip_9, if_neg (show ¬ nI d ≤ nI (c 0 + 9) from nI_ge (by omega) (by omega)), ip_1]
  | succ m ih =>
    intro d f hd hf
    obtain ⟨f, rfl⟩ : ∃ j, f = j + 1 := ⟨f - 1, by omega⟩
    rw [f_Law_law_h1372, ip_9, if_pos (nI_le (by omega) (by omega)), s_where R hi ⟨nI_pos (by omega), nI_le (b := 1999) (by omega) (by omega)⟩, ob]
    dsimp only
    rw [l_where hT hM z3 z4 hi (nI d), ob]
    dsimp only
    rw [if_pos rfl, ip_1]
    exact ih (d + 1) f (by omega) (by omega)
theorem l_1362 (h : LI w A c K 40) (next : Fin1 (f_Law_law_h1423 xs Ls jfu (nI (c 3)) (nI (c 4)) (nI (c 5)) (nI (c 0)) 0 w)) : ∀ m i f, i + m = c 3 → m < f → Fin1 (f_Law_law_h1362 xs Ls f (nI (c 3)) (nI (c 4)) (nI (c 5)) (nI (c 0)) (nI i) w) := by
  have h3 : c 3 ≤ 8 := h.2.2.1.2.2.2.2.2.2.2.1
  have h0 : c 0 ≤ 160 := h.2.2.1.2.2.2.2.2.2.1
  intro m
  induction m with
  | zero =>
    intro i f hi hf
    obtain ⟨f, rfl⟩ : ∃ j, f = j + 1 := ⟨f - 1, by omega⟩
    rw [f_Law_law_h1362, if_neg (nI_nlt (by omega) (by omega))]
    exact next
  | succ m ih =>
    intro i f hi hf
    obtain ⟨f, rfl⟩ : ∃ j, f = j + 1 := ⟨f - 1, by omega⟩
    have e := l_1372 (xs := xs) (Ls := Ls) h (i := i) (by omega) (K1362 := f_Law_law_h1362 xs Ls f) (c 0 + 10) 0 jfu (by omega) (by unfold jfu; omega)
    have e' : f_Law_law_h1372 xs Ls (f_Law_law_h1362 xs Ls f) jfu (nI (c 3)) (nI (c 4)) (nI (c 5)) (nI (c 0)) (nI i) 0 w = _ := e
    rw [f_Law_law_h1362, if_pos (nI_lt (by omega) (by omega)), e']
    exact ih (i + 1) f (by omega) (by omega)
theorem l_1441 (h : LI w A c K 40) {a p : Nat} (ha : a < c 5) (hp : A (1520 + 4 * a + 1) = nI p) (hp0 : p ≤ c 0) {K1423 : Int32 → Int32 → Int32 → Int32 → Int32 → jW → Option (Int32 × jW)} : ∀ m d f, d + m = c 0 + 1 → m < f → p ≤ d → f_Law_law_h1441 xs Ls K1423 f (nI (c 3)) (nI (c 4)) (nI (c 5)) (nI (c 0)) (nI a) (nI d) w = K1423 (nI (c 3)) (nI (c 4)) (nI (c 5)) (nI (c 0)) (nI (a + 1)) w := by
  obtain ⟨R, ⟨q2, q3⟩, ⟨z1, z6, z7, z10, z12, z13, z0, z3, z4, z5, z8, z9, z2⟩, P, S, hST, hWY, hLL, hT, hM, hSs, hI, hH⟩ := h
  obtain ⟨y1, y2⟩ := sdy_e R ha
  have ep : sdy A a = p := (nI_eq (by omega) (by omega)).mp (y1.symm.trans hp)
  intro m
  induction m with
  | zero =>
    intro d f hd hf _
    obtain ⟨f, rfl⟩ : ∃ j, f = j + 1 := ⟨f - 1, by omega⟩
    rw [f_Law_law_h1441, if_neg (nI_ge (by omega) (by omega)), ip_1]
  | succ m ih =>
    intro d f hd hf hpd
    obtain ⟨f, rfl⟩ : ∃ j, f = j + 1 := ⟨f - 1, by omega⟩
    have iH := ih (d + 1) f (by omega) (by omega) (by omega)
    rw [f_Law_law_h1441, if_pos (nI_le (by omega) (by omega)), s_whole R ha ⟨by rw [hp]; exact nI_nlt hpd (by omega), nI_le (b := 1999) (by omega) (by omega)⟩, ob]
    dsimp only
    rw [l_whole hM hSs z4 z5 ha hp (nI d), ep, ob]
    dsimp only
    cases brk A (A (1520 + 4 * a)) p (nI d) (c 4) 0 with
    | true =>
      rw [show bz (!true) = 0 from rfl, if_pos rfl, f_Law_law_j1477, if_pos rfl, ip_1]; exact iH
    | false =>
      rw [show bz (!false) = 1 from rfl, if_neg one_ne, f_Law_law_j1477, if_pos rfl, ip_1]; exact iH
theorem l_1423 (h : LI w A c K 40) (next : Fin1 (f_Law_law_h1497 xs Ls jfu (nI (c 3)) (nI (c 4)) (nI (c 5)) (nI (c 0)) 0 w)) : ∀ m a f, a + m = c 5 → m < f → Fin1 (f_Law_law_h1423 xs Ls f (nI (c 3)) (nI (c 4)) (nI (c 5)) (nI (c 0)) (nI a) w) := by
  have h0 := h
  obtain ⟨R, ⟨q2, q3⟩, ⟨z1, z6, z7, z10, z12, z13, z0, z3, z4, z5, z8, z9, z2⟩, P, S, hST, hWY, hLL, hT, hM, hSs, hI, hH⟩ := h
  intro m
  induction m with
  | zero =>
    intro a f ha hf
    obtain ⟨f, rfl⟩ : ∃ j, f = j + 1 := ⟨f - 1, by omega⟩
    rw [f_Law_law_h1423, if_neg (nI_nlt (by omega) (by omega))]
    exact next
  | succ m ih =>
    intro a f ha hf
    obtain ⟨f, rfl⟩ : ∃ j, f = j + 1 := ⟨f - 1, by omega⟩
    have ha5 : a < c 5 := by omega
    obtain ⟨y1, y2⟩ := sdy_e R ha5
    have e := l_1441 (xs := xs) (Ls := Ls) h0 ha5 y1 y2 (K1423 := f_Law_law_h1423 xs Ls f) (c 0 + 1 - sdy A a) (sdy A a) jfu (by omega) (by unfold jfu; omega) (Nat.le_refl _)
    have g1 : jal [jin ((2 * nI a) + 1) 16] = true := by rw [im_2, ip_1, jal_c, jal_n, jin_nI (by omega) (by omega)]; rfl
    rw [f_Law_law_h1423, if_pos (nI_lt ha5 (by omega)), if_pos g1, im_2, ip_1, nI_clamp (by omega), (hSs a ha5).2, y1, e]
    exact ih (a + 1) f (by omega) (by omega)
theorem tl_cg {t : Nat} {d kn : Int32} : ∀ n, (∀ k, 9680 ≤ k → k < 9680 + 8 * n → B k = A k) → tl B t d kn n = tl A t d kn n := by
  intro n
  induction n with
  | zero => intro _; rfl
  | succ n ih =>
    intro h
    have iH := ih (fun k q1 q2 => h k q1 (by omega))
    rw [tl, tl, iH, h (9680 + 8 * n) (by omega) (by omega), h (9680 + 8 * n + 2) (by omega) (by omega), h (9680 + 8 * n + 3) (by omega) (by omega)]
    have e : tlb B n (tl A t d kn n) = tlb A n (tl A t d kn n) := by
      cases q : tl A t d kn n with
      | none => rfl
      | some r =>
        have := tl_lt n r q
        rw [tlb, tlb, h (9680 + 8 * n + 2) (by omega) (by omega), h (9680 + 8 * r + 2) (by omega) (by omega)]
    rw [e]
/-- nothing told yet -/
theorem TFn_0 (h : LI w A c K 40) : TFn w A c K 0 := by
  obtain ⟨R, ⟨q2, q3⟩, ⟨z1, z6, z7, z10, z12, z13, z0, z3, z4, z5, z8, z9, z2⟩, P, S, hST, hWY, hLL, hT, hM, hSs, hI, hH⟩ := h
  refine ⟨R, by omega, ⟨z1, z6, by omega, z12, z13, by omega, z3, z4, z5, z2⟩, hST, hWY, hT, hM, hSs, hI, fun t ht => ⟨fun q => by omega, fun _ => ?_⟩⟩
  rw [z7]; rfl
/-- a thing told where it is -/
theorem TFn_tell {i p : Nat} (h : TFn w A c K i) (hi : i < c 3) (hp : p < 5) (hw : mwh A (c 4) i (nI (c 0)) = nI p) {u : jW} (kp : Kp u w) (a3 : RA u 3 B (cup (cup c 7 (c 7 + 1)) 11 (c 11 + 1)) (K + 1)) (b0 : B (9680 + 8 * c 7) = nI i) (b1 : B (9680 + 8 * c 7 + 1) = nI p) (b2 : B (9680 + 8 * c 7 + 2) = nI (c 0)) (b3 : B (9680 + 8 * c 7 + 3) = nI (c 0)) (fr : ∀ k, k < 21000 → ¬ (k = 7 ∨ k = 9680 + 8 * c 7 ∨ k = 9680 + 8 * c 7 + 1 ∨ k = 9680 + 8 * c 7 + 2 ∨ k = 9680 + 8 * c 7 + 3 ∨ k = 11 ∨ k = 13080 + 8 * c 11 ∨ k = 13080 + 8 * c 11 + 1 ∨ k = 13080 + 8 * c 11 + 2 ∨ k = 13080 + 8 * c 11 + 3 ∨ k = 13080 + 8 * c 11 + 4) → B k = A k) : TFn u B (cup (cup c 7 (c 7 + 1)) 11 (c 11 + 1)) (K + 1) (i + 1) := by
  obtain ⟨R, h2, ⟨z1, z6, z7, z12, z13, z0, z3, z4, z5, z2⟩, hST, ⟨W, hW, hD⟩, hT, hM, hSs, hI, hS⟩ := h
  have em : ∀ t, t < c 3 → mwh B (c 4) t (nI (c 0)) = mwh A (c 4) t (nI (c 0)) := fun t ht => mwh_cg ⟨fun k q1 q2 _ => fr k (by omega) (by omega), fun k q1 q2 => fr k (by omega) (by omega)⟩ (by omega) (by omega)
  have hi2 := HI_tell hI (by omega) fr
  refine ⟨a3, by omega, ⟨z1, z6, by show c 7 + 1 ≤ i + 1; omega, z12, z13, z0, z3, z4, z5, z2⟩, fun j hj => ?_, ⟨W, fun a b ha hb => ?_, fun a b ha hb => ?_⟩, SYt_k hT (kp 98 (by omega)) rfl (fun t ht j hj _ => fr _ (by omega) (by omega)), SYm_k hM (kp 99 (by omega)) rfl (fun t ht j hj => fr _ (by omega) (by omega)), SYs_k hSs (kp 100 (by omega)) rfl (fun t ht j hj => fr _ (by omega) (by omega)), hi2, fun t ht => ?_⟩
  · obtain ⟨s1, s2, s3⟩ := hST j hj
    rw [kp 94 (by omega), kp 93 (by omega), fr _ (by omega) (by omega), fr _ (by omega) (by omega), fr _ (by omega) (by omega)]
    exact ⟨s1, s2, s3⟩
  · rw [kp 95 (by omega)]; exact hW a b ha hb
  · have hr' : ∀ r, r < c 2 → B (120 + 4 * r) = A (120 + 4 * r) ∧ B (120 + 4 * r + 1) = A (120 + 4 * r + 1) ∧ B (120 + 4 * r + 2) = A (120 + 4 * r + 2) := fun r hr => ⟨fr _ (by omega) (by omega), fr _ (by omega) (by omega), fr _ (by omega) (by omega)⟩
    exact (hD a b ha hb).imp (fun q => ⟨q.1, Dis_cg hr' q.2⟩) (fun q => ⟨q.1, Dis_cg hr' q.2⟩)
  · have ht' : t < c 3 := ht
    obtain ⟨t1, t2⟩ := hS t ht'
    have ec : tl B t (nI (c 0)) (nI (c 0)) (c 7) = tl A t (nI (c 0)) (nI (c 0)) (c 7) := tl_cg (c 7) (fun k q1 q2 => fr k (by omega) (by omega))
    show (t < i + 1 → ∀ p, p < 5 → mwh B (c 4) t (nI (c 0)) = nI p → tlp B (tl B t (nI (c 0)) (nI (c 0)) (c 7 + 1)) = nI p) ∧ ((¬ t < i + 1 ∨ ∀ p, p < 5 → mwh B (c 4) t (nI (c 0)) ≠ nI p) → tl B t (nI (c 0)) (nI (c 0)) (c 7 + 1) = none)
    rw [em t ht', tl, ec]
    by_cases z : t = i
    · subst z
      rw [if_pos b0, if_pos (by rw [b2]; exact Int32.le_refl _), if_pos (by rw [b3]; exact Int32.le_refl _), t2 (Or.inl (Nat.lt_irrefl _))]
      refine ⟨fun _ p' hp' hw' => ?_, fun q => ?_⟩
      · show B (9680 + 8 * c 7 + 1) = nI p'
        rw [b1, ← hw, hw']
      · rcases q with q | q
        · omega
        · exact absurd hw (q p hp)
    · rw [if_neg (fun q => z (by
        rw [b0] at q
        exact ((nI_eq (by omega) (by omega)).mp q).symm))]
      refine ⟨fun q p' hp' hw' => ?_, fun q => t2 (q.imp (fun q => by omega) id)⟩
      have e := t1 (by omega) p' hp' hw'
      cases q2 : tl A t (nI (c 0)) (nI (c 0)) (c 7) with
      | none => rw [q2] at e; exact e
      | some r =>
        rw [q2] at e
        have := tl_lt (c 7) r q2
        have e' : A (9680 + 8 * r + 1) = nI p' := e
        show B (9680 + 8 * r + 1) = nI p'
        rw [fr _ (by omega) (by omega)]; exact e'
theorem l_1497 (next : ∀ w A c K, TFn w A c K (c 3) → Fin1 (f_Law_law_h1557 xs Ls jfu (nI (c 3)) (nI (c 4)) (nI (c 5)) (nI (c 0)) 0 w)) : ∀ m i f (w : jW) A c K, i + m = c 3 → m < f → TFn w A c K i → Fin1 (f_Law_law_h1497 xs Ls f (nI (c 3)) (nI (c 4)) (nI (c 5)) (nI (c 0)) (nI i) w) := by
  intro m
  induction m with
  | zero =>
    intro i f w A c K hi hf h
    obtain ⟨f, rfl⟩ : ∃ j, f = j + 1 := ⟨f - 1, by omega⟩
    have h0 := h
    obtain ⟨R, h2, ⟨z1, z6, z7, z12, z13, z0, z3, z4, z5, z2⟩, -⟩ := h0
    rw [f_Law_law_h1497, if_neg (nI_nlt (by omega) (by omega))]
    have e : i = c 3 := by omega
    subst e
    exact next w A c K h
  | succ m ih =>
    intro i f w A c K hi hf h
    obtain ⟨f, rfl⟩ : ∃ j, f = j + 1 := ⟨f - 1, by omega⟩
    have h0 := h
    obtain ⟨R, h2, ⟨z1, z6, z7, z12, z13, z0, z3, z4, z5, z2⟩, hST, hWY, hT, hM, hSs, hI, hS⟩ := h0
    have hi3 : i < c 3 := by omega
    have w1 := l_where hT hM z3 z4 hi3 (nI (c 0))
    obtain ⟨p, hp, hp2⟩ := pl_cases R hI hi3 (c 0) (by omega)
    rw [f_Law_law_h1497, if_pos (nI_lt hi3 (by omega)), w1, ob]
    dsimp only
    rw [hp]
    rcases hp2 with hp2 | hp2
    rotate_left
    · rw [if_neg (show ¬ nI p < 100 from nI_nlt (a := p) (b := 100) (by omega) (by omega)), ip_1]
      refine ih (i + 1) f w A c K (by omega) (by omega) ⟨R, by omega, ⟨z1, z6, by omega, z12, z13, z0, z3, z4, z5, z2⟩, hST, hWY, hT, hM, hSs, hI, fun t ht => ?_⟩
      obtain ⟨t1, t2⟩ := hS t ht
      by_cases z : t = i
      · subst z
        have none' := t2 (Or.inl (Nat.lt_irrefl _))
        refine ⟨fun _ p' hp' hw' => ?_, fun _ => none'⟩
        have := (nI_eq (by omega) (by omega)).mp (hp.symm.trans hw')
        omega
      · exact ⟨fun q => t1 (by omega), fun q => t2 (q.imp (fun q => by omega) id)⟩
    obtain ⟨sx, th1, th2, th3, th4⟩ := (p_Ithing R).1 i hi3
    have land : A (40 + 8 * p) = A (240 + 12 * i + 3) := by
      rw [th3, (hST p hp2).1, (hST sx (by omega)).1]
    obtain ⟨u, B, a1, kp, a3, b0, b1, b2, b3, fr⟩ := s_tell R (by omega) (t := i) (p := p) (dn := c 0) hi3 (by omega) (Nat.le_refl _) (by omega) land
    rw [if_pos (show nI p < 100 from nI_lt (b := 100) (by omega) (by omega)), w1, ob]
    dsimp only
    rw [hp, a1, ob]
    dsimp only
    rw [if_neg (nI_pos (by omega)), ip_1]
    exact ih (i + 1) f u B (cup (cup c 7 (c 7 + 1)) 11 (c 11 + 1)) (K + 1) (show i + 1 + m = c 3 by omega) (by omega) (TFn_tell h hi3 hp2 hp kp a3 b0 b1 b2 b3 fr)
/-- what is told is what truly is there -/
theorem ntd_cn (h : TFn w A c K (c 3)) {i s : Nat} (hi : i < 5) (hs : s < 4) : ntd A (c 7) (nI i) (nI s) (nI (c 0)) (nI (c 0)) (c 3) = cn A c i s (c 0) := by
  obtain ⟨R, h2, ⟨z1, z6, z7, z12, z13, z0, z3, z4, z5, z2⟩, hST, hWY, hT, hM, hSs, hI, hS⟩ := h
  have gen : ∀ n, n ≤ c 3 → ntd A (c 7) (nI i) (nI s) (nI (c 0)) (nI (c 0)) n = ct (fun t => decide (A (240 + 12 * t) = nI s ∧ mwh A (c 4) t (nI (c 0)) = nI i)) n := by
    intro n
    induction n with
    | zero => intro _; rfl
    | succ n ih =>
      intro hn
      rw [ntd, ct, ih (by omega)]
      congr 1
      obtain ⟨t1, t2⟩ := hS n (by omega)
      obtain ⟨p, hp, hp2⟩ := pl_cases R hI (t := n) (by omega) (c 0) (by omega)
      have key : tlp A (tl A n (nI (c 0)) (nI (c 0)) (c 7)) = nI i ↔ mwh A (c 4) n (nI (c 0)) = nI i := by
        rcases hp2 with hp2 | hp2
        · rw [t1 (by omega) p hp2 hp, hp]
        · rw [t2 (Or.inr (fun p' hp' hw' => by
            have := (nI_eq (by omega) (by omega)).mp (hp.symm.trans hw')
            omega)), hp]
          show (-1 : Int32) = nI i ↔ nI p = nI i
          exact ⟨fun q => absurd q.symm (nI_ne_m1 (by omega)), fun q => by
            have := (nI_eq (by omega) (by omega)).mp q
            omega⟩
      by_cases z : A (240 + 12 * n) = nI s ∧ mwh A (c 4) n (nI (c 0)) = nI i
      · rw [if_pos ⟨z.1, key.mpr z.2⟩, if_pos (decide_eq_true z)]
      · rw [if_neg (fun q => z ⟨q.1, key.mp q.2⟩), if_neg (fun q => z (of_decide_eq_true q))]
  exact gen (c 3) (Nat.le_refl _)
theorem dbt_no (h : TFn w A c K (c 3)) {i s : Nat} (hi : i < 5) (hs : s < 4) : dbt A c i s (c 0) (nI (c 0)) = false := by
  have hI : HI A c := h.2.2.2.2.2.2.2.2.1
  unfold dbt
  rw [ntd_cn h hi hs, ps_gb hI hi hs (Nat.le_refl _) (Nat.le_refl _)]; rfl
end D1

/-! LAYER C of p48: the first world; sites, roads, ways, sorts -/
section C5
variable {w v : jW} {A : Nat → Int32} {c : Nat → Nat} {K : Nat} {xs : Nat → Int32} {Ls : Nat}
def A00 : Nat → Int32 := fun k => if k = 14 then 2 else if k = 15 then 5 else if k = 16 then 40 else if 20 ≤ k ∧ k < 36 then (if k % 4 = 0 then 1 else if k % 4 = 1 then 200 else if k % 4 = 2 then 1 else 500) else 0
def c00 : Nat → Nat := fun _ => 0
theorem z_cnt : ∀ i, i < 14 → A00 i = nI 0 := by decide +kernel
theorem z_so : ∀ i, i < 4 → A00 (20 + 4 * i) = nI 1 ∧ A00 (20 + 4 * i + 1) = nI 200 ∧ A00 (20 + 4 * i + 2) = nI 1 ∧ A00 (20 + 4 * i + 3) = nI 500 := by decide +kernel
theorem z_th : ∀ t, t < 40 → A00 (240 + 12 * t + 6) = 0 := by decide +kernel
theorem z_r : ∀ i, i < 4 → ∀ j, j < 4 → jWb.1 5 (i * 4 + j) = A00 (20 + 4 * i + j) := by decide +kernel
theorem z_IA : IA A00 c00 0 := by
  refine ⟨z_cnt, ?_, ?_, ?_, (fun i h => absurd h (Nat.not_lt_zero i)), (fun i h => absurd h (Nat.not_lt_zero i)), ⟨(fun i h => absurd h (Nat.not_lt_zero i)), fun t _ h => z_th t h⟩, (fun i h => absurd h (Nat.not_lt_zero i)), (fun i h => absurd h (Nat.not_lt_zero i)), (fun i h => absurd h (Nat.not_lt_zero i)), (fun i h => absurd h (Nat.not_lt_zero i)), (fun i h => absurd h (Nat.not_lt_zero i)), (fun i h => absurd h (Nat.not_lt_zero i)), (fun i h => absurd h (Nat.not_lt_zero i)), (fun i h => absurd h (Nat.not_lt_zero i)), (fun i h => absurd h (Nat.not_lt_zero i))⟩
  · unfold I1 c00; omega
  · exact ⟨⟨2, by decide +kernel, by omega, by omega⟩, ⟨5, by decide +kernel, by omega, by omega⟩, ⟨40, by decide +kernel, by omega, by omega⟩⟩
  · intro i hi
    obtain ⟨h1, h2, h3, h4⟩ := z_so i hi
    exact ⟨⟨1, h1, by omega, by omega⟩, ⟨200, h2, by omega, by omega⟩, ⟨1, h3, by omega, by omega⟩, ⟨500, h4, by omega, by omega⟩⟩
set_option maxRecDepth 20000 in
theorem z_RR : RR jWb 3 A00 c00 :=
  ⟨(by unfold Rscal; decide +kernel),
   ⟨(by unfold JR; decide +kernel : JR jWb 4 4 4 4), fun i j hi hj => z_r i hi j hj⟩,
   ⟨0, z_cnt 1 (by omega), (by unfold JR; decide +kernel : JR jWb 6 5 10 0), fun i _ h => absurd h (Nat.not_lt_zero i)⟩,
   ⟨0, z_cnt 3 (by omega), (by unfold JR; decide +kernel : JR jWb 10 11 40 0), fun i _ h => absurd h (Nat.not_lt_zero i)⟩,
   ⟨0, z_cnt 4 (by omega), (by unfold JR; decide +kernel : JR jWb 12 6 100 0), fun i _ h => absurd h (Nat.not_lt_zero i)⟩,
   ⟨0, z_cnt 5 (by omega), (by unfold JR; decide +kernel : JR jWb 14 2 40 0), fun i _ h => absurd h (Nat.not_lt_zero i)⟩,
   ⟨0, z_cnt 7 (by omega), (by unfold JR; decide +kernel : JR jWb 24 4 200 0), fun i _ h => absurd h (Nat.not_lt_zero i)⟩,
   ⟨0, z_cnt 8 (by omega), (by unfold JR; decide +kernel : JR jWb 26 10 100 0), fun i _ h => absurd h (Nat.not_lt_zero i)⟩,
   ⟨0, z_cnt 9 (by omega), (by unfold JR; decide +kernel : JR jWb 28 3 100 0), fun i _ h => absurd h (Nat.not_lt_zero i)⟩,
   ⟨0, z_cnt 10 (by omega), (by unfold JR; decide +kernel : JR jWb 30 3 50 0), fun i _ h => absurd h (Nat.not_lt_zero i)⟩,
   ⟨0, z_cnt 11 (by omega), (by unfold JR; decide +kernel : JR jWb 32 5 512 0), fun i _ h => absurd h (Nat.not_lt_zero i)⟩,
   ⟨0, z_cnt 12 (by omega), (by unfold JR; decide +kernel : JR jWb 34 2 60 0), fun i _ h => absurd h (Nat.not_lt_zero i)⟩,
   ⟨0, z_cnt 13 (by omega), (by unfold JR; decide +kernel : JR jWb 36 2 60 0), fun i _ h => absurd h (Nat.not_lt_zero i)⟩,
   ⟨0, 0, z_cnt 3 (by omega), z_cnt 4 (by omega), by omega, by omega, (fun i h => absurd h (Nat.not_lt_zero i)), (fun i h => absurd h (Nat.not_lt_zero i))⟩,
   (fun i h => absurd h (Nat.not_lt_zero i)),
   (fun i _ _ h => absurd h (Nat.not_lt_zero i)),
   ⟨(by unfold JR; decide +kernel : JR jWb 8 10 10 0), fun i _ h => absurd h (Nat.not_lt_zero i)⟩,
   ⟨0, 0, (by unfold JR; decide +kernel : JR jWb 17 4 10 0), (by unfold JR; decide +kernel : JR jWb 19 4 160 0), (by unfold JR; decide +kernel : JR jWb 21 1 3000 0), by omega, by omega, (fun i h => absurd h (Nat.not_lt_zero i))⟩⟩
theorem RA_0 : RA jWb 3 A00 c00 0 := ⟨z_IA, z_RR⟩
/-- worlds that differ in the law's cells alone -/
theorem RA_hi (H : RA w 3 A c K) (h : ∀ b, b < 93 → v.1 b = w.1 b) : RA v 3 A c K := RA_fr H (fun b _ q _ => h b (by omega))
def Par (A : Nat → Int32) : Prop := A 14 = 2 ∧ A 15 = 5 ∧ A 16 = 40
def cnt0 (c : Nat → Nat) : Prop := c 0 = 0 ∧ c 3 = 0 ∧ c 4 = 0 ∧ c 5 = 0 ∧ c 6 = 0 ∧ c 7 = 0 ∧ c 8 = 0 ∧ c 9 = 0 ∧ c 10 = 0 ∧ c 12 = 0 ∧ c 13 = 0
def STe (w : jW) (A : Nat → Int32) (n : Nat) : Prop := ∀ i, i < n → A (40 + 8 * i) = 0 ∧ w.1 94 i = A (40 + 8 * i + 1) ∧ w.1 93 i = A (40 + 8 * i + 2)
def S19 (w : jW) (A : Nat → Int32) (c : Nat → Nat) (K k : Nat) : Prop := RA w 3 A c K ∧ K = k ∧ c 1 = k ∧ c 2 = 0 ∧ cnt0 c ∧ Par A ∧ STe w A k
theorem l_89 {K19 : Int32 → jW → Option (Int32 × jW)} {k kl : Nat} {z u : Int32} (hz : z = 0 ∨ z = 1) (hk : k < 5) (hkl : kl ≤ 3) (H : S19 w A c K k) (e94 : w.1 94 k = nI kl) (e93 : w.1 93 k = z) (next : ∀ v A' c', S19 v A' c' (K + 1) (k + 1) → Fin1 (K19 (nI (k + 1)) v)) : Fin1 (f_Law_law_j89 xs Ls K19 (nI k) u z (nI kl) 0 w) := by
  obtain ⟨R, hK, h1, h2, ⟨z0, z3, z4, z5, z6, z7, z8, z9, z10, z12, z13⟩, ⟨p1, p2, p3⟩, hS⟩ := H
  obtain ⟨v, B, f1, f2, f3, g0, g1, g2, g3, g4, fr⟩ := s_site R (by omega) (l := 0) (kl := kl) (z := z) (u := u) (by omega) hkl (by omega)
  have f1' : f_Count_site 0 (nI kl) z u w = some (nI (c 1), v) := f1
  rw [f_Law_law_j89, f1', ob]
  dsimp only
  rw [if_pos (by rw [h1]), ip_1]
  have ebv : bv z = z := by rcases hz with rfl | rfl <;> decide
  refine next v B _ ⟨f3, by omega, ?_, h2, ⟨z0, z3, z4, z5, z6, z7, z8, z9, z10, z12, z13⟩, ⟨?_, ?_, ?_⟩, fun i hi => ?_⟩
  · show c 1 + 1 = k + 1
    omega
  · rw [fr 14 (by omega) (by omega)]; exact p1
  · rw [fr 15 (by omega) (by omega)]; exact p2
  · rw [fr 16 (by omega) (by omega)]; exact p3
  · rw [f2 94 (by omega), f2 93 (by omega)]
    by_cases q : i < k
    · obtain ⟨s1, s2, s3⟩ := hS i q
      rw [fr _ (by omega) (by omega), fr _ (by omega) (by omega), fr _ (by omega) (by omega)]
      exact ⟨s1, s2, s3⟩
    · obtain rfl : i = k := by omega
      rw [h1] at g0 g1 g2
      exact ⟨g0, by rw [g1, e94], by rw [g2, e93, ebv]⟩
theorem l_45 (hL : Ls ≤ 260) {K19 : Int32 → jW → Option (Int32 × jW)} {k : Nat} {z : Int32} (hz : z = 0 ∨ z = 1) (hk : k < 5) (H : S19 w A c K k) (next : ∀ v A' c', S19 v A' c' (K + 1) (k + 1) → Fin1 (K19 (nI (k + 1)) v)) : Fin1 (f_Law_law_j45 xs Ls K19 (nI k) z (nI k) w) := by
  obtain ⟨X, hX, eX⟩ := pick_n (xs := xs) hL (k := k) (by omega)
  have g1 : jal [jbo z, jin (nI k) 5] = true := by
    rw [jal_c, jal_c, jal_n, jin_nI hk (by omega)]
    rcases hz with rfl | rfl <;> decide
  have g2 : jal [jin (nI k) 5] = true := by rw [jal_c, jal_n, jin_nI hk (by omega)]; rfl
  have g3 : jal [jin (nI k) 5, jin (nI k) 5] = true := by rw [jal_c, jal_c, jal_n, jin_nI hk (by omega)]; rfl
  obtain ⟨kl, hkl, ekl⟩ := ma_k (nI X >>> ((1 : Int32) &&& 31)) 3
  have ekl' : (nI X >>> ((1 : Int32) &&& 31)) &&& 3 = nI kl := ekl
  rw [f_Law_law_j45, if_pos g1, jlw_e, eX, ob]
  dsimp only
  rw [if_pos g2, jlw_e, if_pos g3, eX, ob]
  dsimp only
  rw [ekl', nI_clamp (by omega)]
  obtain ⟨w2, hw2⟩ : ∃ w2 : jW, w2 = (jup (jup w.1 93 k z) 94 k (nI kl), w.2) := ⟨_, rfl⟩
  have e93 : w2.1 93 k = z := by rw [hw2]; dsimp only; rw [jup_ne (by omega), jup_eq]
  have e94 : w2.1 94 k = nI kl := by rw [hw2]; dsimp only; rw [jup_eq]
  have lo : ∀ b, b < 93 → w2.1 b = w.1 b := fun b q => by rw [hw2]; dsimp only; rw [jup_fn (by omega), jup_fn (by omega)]
  have H2 : S19 w2 A c K k := by
    obtain ⟨R, hK, h1, h2, h3, h4, hS⟩ := H
    refine ⟨RA_hi R lo, hK, h1, h2, h3, h4, fun i hi => ?_⟩
    obtain ⟨s1, s2, s3⟩ := hS i hi
    refine ⟨s1, ?_, ?_⟩
    · rw [hw2]; dsimp only; rw [jup_k (by omega), jup_ne (by omega)]; exact s2
    · rw [hw2]; dsimp only; rw [jup_ne (by omega), jup_k (by omega)]; exact s3
  have q93 : jup (jup w.1 93 k z) 94 k (nI kl) 93 k = z := by rw [jup_ne (by omega), jup_eq]
  have q94 : jup (jup w.1 93 k z) 94 k (nI kl) 94 k = nI kl := jup_eq
  rw [q93, q94, ← hw2]
  split
  · exact l_89 hz hk hkl H2 e94 e93 next
  · exact l_89 hz hk hkl H2 e94 e93 next
theorem l_19 (hL : Ls ≤ 260) (next : ∀ w A c, S19 w A c 5 5 → Fin1 (f_Law_law_h114 xs Ls jfu 0 (jzr w 95))) : ∀ m k f (w : jW) A c, k + m = 5 → m < f → S19 w A c k k → Fin1 (f_Law_law_h19 xs Ls f (nI k) w) := by
  intro m
  induction m with
  | zero =>
    intro k f w A c hk hf H
    obtain ⟨f, rfl⟩ : ∃ j, f = j + 1 := ⟨f - 1, by omega⟩
    obtain rfl : k = 5 := by omega
    rw [f_Law_law_h19, if_neg (by decide), jlw_e]
    exact next w A c H
  | succ m ih =>
    intro k f w A c hk hf H
    obtain ⟨f, rfl⟩ : ∃ j, f = j + 1 := ⟨f - 1, by omega⟩
    obtain ⟨X, hX, eX⟩ := pick_n (xs := xs) hL (k := k) (by omega)
    have st : ∀ z, z = 0 ∨ z = 1 → Fin1 (f_Law_law_j45 xs Ls (f_Law_law_h19 xs Ls f) (nI k) z (nI k) w) := fun z hz => l_45 hL hz (by omega) H (fun v A' c' h => ih (k + 1) f v A' c' (by omega) (by omega) h)
    rw [f_Law_law_h19, if_pos (show nI k < 5 from nI_lt (b := 5) (by omega) (by omega)), eX, ob]
    dsimp only
    split
    · exact st 1 (Or.inr rfl)
    · exact st 0 (Or.inl rfl)
/-- the rows of ways begin -/
def W99 : Nat → Nat → Nat := fun a b => if a = b then 0 else 999
theorem l_114 {L : Prop} (next : ∀ w', (∀ q, q ≠ 95 → w'.1 q = w.1 q) → wayW w' W99 → Fin1 (f_Law_law_h153 xs Ls jfu 0 0 w')) : ∀ m k f (v : jW), k + m = 25 → m < f → (∀ q, q ≠ 95 → v.1 q = w.1 q) → (∀ i, i < k → v.1 95 i = if i % 6 = 0 then 0 else 999) → Fin1 (f_Law_law_h114 xs Ls f (nI k) v) := by
  intro m
  induction m with
  | zero =>
    intro k f v hk hf h1 h2
    obtain ⟨f, rfl⟩ : ∃ j, f = j + 1 := ⟨f - 1, by omega⟩
    obtain rfl : k = 25 := by omega
    rw [f_Law_law_h114, if_neg (by decide)]
    refine next v h1 (fun a b ha hb => ?_)
    rw [h2 _ (by omega)]
    unfold W99
    by_cases z : a = b
    · rw [if_pos (by omega), if_pos z]; rfl
    · rw [if_neg (by omega), if_neg z]; rfl
  | succ m ih =>
    intro k f v hk hf h1 h2
    obtain ⟨f, rfl⟩ : ∃ j, f = j + 1 := ⟨f - 1, by omega⟩
    have er : nI k - nI k / 6 * 6 = nI (k % 6) := nI_rem (b := 6) (by omega) (by omega)
    have g1 : jal [jin (nI k) 25] = true := by rw [jal_c, jal_n, jin_nI (by omega) (by omega)]; rfl
    have st : ∀ x : Int32, x = (if k % 6 = 0 then 0 else 999) → Fin1 (f_Law_law_h114 xs Ls f (nI (k + 1)) (jup v.1 95 k x, v.2)) := fun x hx => ih (k + 1) f _ (by omega) (by omega) (fun q hq => by dsimp only; rw [jup_fn hq]; exact h1 q hq) (fun i hi => by
      dsimp only
      by_cases z : i = k
      · rw [z, jup_eq]; exact hx
      · rw [jup_k z]; exact h2 i (by omega))
    rw [f_Law_law_h114, if_pos (show nI k < 25 from nI_lt (b := 25) (by omega) (by omega)), if_pos (by decide), er]
    by_cases z : k % 6 = 0
    · rw [if_pos (show nI (k % 6) = 0 by rw [z]; rfl), if_pos g1, jlw_e, nI_clamp (by omega), ip_1]
      exact st 0 (by rw [if_pos z])
    · rw [if_neg (show ¬ nI (k % 6) = 0 from nI_ne' (b := 0) (by omega) (by omega) z), if_pos g1, jlw_e, nI_clamp (by omega), ip_1]
      exact st 999 (by rw [if_neg z])
def Wsy (W : Nat → Nat → Nat) : Prop := ∀ a b, a < 5 → b < 5 → W a b = W b a
/-- while roads are made -/
def S153 (w : jW) (A : Nat → Int32) (c : Nat → Nat) (K r : Nat) (W : Nat → Nat → Nat) : Prop := RA w 3 A c K ∧ c 1 = 5 ∧ c 2 = r ∧ cnt0 c ∧ Par A ∧ STe w A 5 ∧ wayW w W ∧ Wz W ∧ Wsy W ∧ Wr A r 9 W ∧ We A r W
theorem Wk_mono {A' : Nat → Int32} {nr nr' i : Nat} (h : ∀ r, r < nr → A' (120 + 4 * r) = A (120 + 4 * r) ∧ A' (120 + 4 * r + 1) = A (120 + 4 * r + 1) ∧ A' (120 + 4 * r + 2) = A (120 + 4 * r + 2)) (hn : nr ≤ nr') : ∀ n y l, Wk A nr i n y l → Wk A' nr' i n y l := by
  intro n
  induction n with
  | zero => intro y l h; exact h
  | succ n ih =>
    intro y l g
    obtain ⟨x, r, d, l2, a1, a2, a3, a4, a5, a6, a7, a8⟩ := g
    obtain ⟨h1, h2, h3⟩ := h r a1
    refine ⟨x, r, d, l2, by omega, a2, a3, a4, a5, ?_, a7, ih x l2 a8⟩
    unfold jnd at a6 ⊢
    rw [h1, h2, h3]; exact a6
theorem l_219 {K153 : Int32 → Int32 → jW → Option (Int32 × jW)} {k r a b d : Nat} {W : Nat → Nat → Nat} (hab : a ≠ b) (ha : a < 5) (hb : b < 5) (hd1 : 1 ≤ d) (hd : d ≤ 9) (hr : r < 30) (hK : K < 500) (H : S153 w A c K r W) (next : ∀ v A' c' W', S153 v A' c' (K + 1) (r + 1) W' → Fin1 (K153 (nI (r + 1)) (nI (k + 1)) v)) {u : jW} {B : Nat → Int32} (R : RA u 3 B (cup c 2 (c 2 + 1)) (K + 1)) (kp : Kp u w) (g0 : B (120 + 4 * c 2) = nI a) (g1 : B (120 + 4 * c 2 + 1) = nI b) (g2 : B (120 + 4 * c 2 + 2) = nI d) (fr : ∀ k, k < 21000 → ¬ (k = 2 ∨ k = 120 + 4 * c 2 ∨ k = 120 + 4 * c 2 + 1 ∨ k = 120 + 4 * c 2 + 2) → B k = A k) : Fin1 (f_Law_law_j219 xs Ls K153 (nI r) (nI k) (nI a) (nI b) (nI d) (nI r) (nI r) u) := by
  obtain ⟨-, h1, h2, ⟨z0, z3, z4, z5, z6, z7, z8, z9, z10, z12, z13⟩, ⟨p1, p2, p3⟩, hS, hW, hz, hsy, hwr, hwe⟩ := H
  have e1 : u.1 95 (5 * a + b) = nI (W a b) := by rw [kp 95 (by omega)]; exact hW a b ha hb
  have zab := hz.2 a b ha hb
  have em : (if nI d < nI (W a b) then nI d else nI (W a b)) = nI (min d (W a b)) := by
    by_cases z : d < W a b
    · rw [if_pos (nI_lt z (by omega)), Nat.min_eq_left (by omega)]
    · rw [if_neg (nI_nlt (by omega) (by omega)), Nat.min_eq_right (by omega)]
  obtain ⟨M, hM⟩ : ∃ M, M = min d (W a b) := ⟨_, rfl⟩
  have hne : ¬ 5 * b + a = 5 * a + b := by omega
  rw [f_Law_law_j219, if_pos rfl, if_neg (nI_ne' (by omega) (by omega) hab)]
  simp (disch := omega) only [im_5, nI_add, ip_1, jin_nI, jal_c, jal_n, nI_clamp, Bool.and_true, ↓reduceIte, jlw_e, e1, jup_eq]
  rw [em, ← hM]
  obtain ⟨v, hv⟩ : ∃ v : jW, v = (jup (jup u.1 95 (5 * a + b) (nI M)) 95 (5 * b + a) (nI M), u.2) := ⟨_, rfl⟩
  have hv' : (jup (jup u.1 95 (5 * a + b) (nI M)) 95 (5 * b + a) (nI M), u.2) = v := hv.symm
  rw [hv']
  have lo : ∀ q, q ≠ 95 → v.1 q = u.1 q := fun q hq => by rw [hv]; dsimp only; rw [jup_fn hq, jup_fn hq]
  obtain ⟨W', hW'⟩ : ∃ W' : Nat → Nat → Nat, W' = fun i j => if i = a ∧ j = b ∨ i = b ∧ j = a then M else W i j := ⟨_, rfl⟩
  have hMle : M ≤ W a b := by omega
  have hMd : M ≤ d := by omega
  have oldA : ∀ r', r' < r → B (120 + 4 * r') = A (120 + 4 * r') ∧ B (120 + 4 * r' + 1) = A (120 + 4 * r' + 1) ∧ B (120 + 4 * r' + 2) = A (120 + 4 * r' + 2) := fun r' hr' => ⟨fr _ (by omega) (by omega), fr _ (by omega) (by omega), fr _ (by omega) (by omega)⟩
  have mono : ∀ i n y l, Wk A r i n y l → Wk B (r + 1) i n y l := fun i n y l h => Wk_mono oldA (Nat.le_succ _) n y l h
  rw [h2] at g0 g1 g2
  have wle : ∀ i j, W' i j ≤ W i j := fun i j => by
    rw [hW']; dsimp only
    split
    · next z =>
      rcases z with ⟨rfl, rfl⟩ | ⟨rfl, rfl⟩
      · exact hMle
      · rw [hsy i j hb ha]; exact hMle
    · exact Nat.le_refl _
  refine next v B (cup c 2 (c 2 + 1)) W' ⟨RA_hi R (fun q hq => lo q (by omega)), h1, by show c 2 + 1 = r + 1; omega, ⟨z0, z3, z4, z5, z6, z7, z8, z9, z10, z12, z13⟩, ⟨?_, ?_, ?_⟩, fun i hi => ?_, fun i j hi hj => ?_, ⟨fun i hi => ?_, fun i j hi hj => ?_⟩, fun i j hi hj => ?_, fun i j hi hj => ?_, fun r' hr' => ?_⟩
  · rw [fr 14 (by omega) (by omega)]; exact p1
  · rw [fr 15 (by omega) (by omega)]; exact p2
  · rw [fr 16 (by omega) (by omega)]; exact p3
  · obtain ⟨s1, s2, s3⟩ := hS i hi
    rw [fr _ (by omega) (by omega), fr _ (by omega) (by omega), fr _ (by omega) (by omega), lo 94 (by omega), lo 93 (by omega), kp 94 (by omega), kp 93 (by omega)]
    exact ⟨s1, s2, s3⟩
  · rw [hv, hW']; dsimp only
    rw [jup_ap, jup_ap, kp 95 (by omega), hW i j hi hj]
    by_cases y1 : i = b ∧ j = a
    · rw [if_pos ⟨rfl, by omega⟩, if_pos (Or.inr y1)]
    · by_cases y2 : i = a ∧ j = b
      · rw [if_neg (by omega), if_pos ⟨rfl, by omega⟩, if_pos (Or.inl y2)]
      · rw [if_neg (by omega), if_neg (by omega), if_neg (by omega)]
  · have := wle i i
    have := hz.1 i hi
    omega
  · have := wle i j
    have := hz.2 i j hi hj
    omega
  · rw [hW']; dsimp only
    by_cases y1 : i = a ∧ j = b ∨ i = b ∧ j = a
    · rw [if_pos y1, if_pos (by omega)]
    · rw [if_neg y1, if_neg (by omega)]; exact hsy i j hi hj
  · have old : W i j = 999 ∨ (W i j ≤ 9 ∧ ∃ n, Wk B (r + 1) i n j (W i j)) := (hwr i j hi hj).imp id (fun ⟨q1, n, q2⟩ => ⟨q1, n, mono i n j _ q2⟩)
    by_cases y1 : i = a ∧ j = b ∨ i = b ∧ j = a
    · have eW : W' i j = M := by rw [hW']; exact if_pos y1
      have eWW : W i j = W a b := by
        rcases y1 with ⟨rfl, rfl⟩ | ⟨rfl, rfl⟩
        · rfl
        · exact hsy i j hi hj
      rw [eW]
      by_cases y2 : W a b ≤ d
      · have : M = W i j := by rw [eWW]; omega
        rw [this]; exact old
      · have : M = d := by omega
        rw [this]
        refine Or.inr ⟨hd, 1, i, r, d, 0, by omega, by omega, by omega, hd1, by omega, ⟨g2, ?_⟩, by omega, rfl, rfl⟩
        rcases y1 with ⟨rfl, rfl⟩ | ⟨rfl, rfl⟩
        · exact Or.inl ⟨g0, g1⟩
        · exact Or.inr ⟨g0, g1⟩
    · have eW : W' i j = W i j := by rw [hW']; exact if_neg y1
      rw [eW]; exact old
  · by_cases z : r' < r
    · obtain ⟨x, y, d', b1, b2, b3, b4, b5, b6, b7, b8, b9, b10⟩ := hwe r' z
      obtain ⟨o1, o2, o3⟩ := oldA r' z
      have := wle x y
      have := wle y x
      exact ⟨x, y, d', o1.trans b1, o2.trans b2, o3.trans b3, b4, b5, b6, b7, b8, by omega, by omega⟩
    · obtain rfl : r' = r := by omega
      refine ⟨a, b, d, g0, g1, g2, ha, hb, hab, hd1, hd, ?_, ?_⟩
      · rw [hW']; dsimp only; rw [if_pos (Or.inl ⟨rfl, rfl⟩)]; exact hMd
      · rw [hW']; dsimp only; rw [if_pos (Or.inr ⟨rfl, rfl⟩)]; exact hMd
theorem l_153 (hL : Ls ≤ 260) (next : ∀ w A c K r W, K ≤ 11 → r ≤ 6 → S153 w A c K r W → Fin1 (f_Law_law_h291 xs Ls jfu 0 w)) : ∀ m k f (w : jW) A c K r W, k + m = 6 → m < f → K ≤ 5 + k → r ≤ k → S153 w A c K r W → Fin1 (f_Law_law_h153 xs Ls f (nI r) (nI k) w) := by
  intro m
  induction m with
  | zero =>
    intro k f w A c K r W hk hf hK hr H
    obtain ⟨f, rfl⟩ : ∃ j, f = j + 1 := ⟨f - 1, by omega⟩
    obtain rfl : k = 6 := by omega
    rw [f_Law_law_h153, if_neg (by decide)]
    exact next w A c K r W (by omega) hr H
  | succ m ih =>
    intro k f w A c K r W hk hf hK hr H
    obtain ⟨f, rfl⟩ : ∃ j, f = j + 1 := ⟨f - 1, by omega⟩
    obtain ⟨X, hX, eX⟩ := pick_n (xs := xs) hL (k := 5 + k) (by omega)
    obtain ⟨X3, h3, e3⟩ := shr_n X 3 hX (by omega)
    obtain ⟨X6, h6, e6⟩ := shr_n X 6 hX (by omega)
    have e3' : nI X >>> ((3 : Int32) &&& 31) = nI X3 := e3
    have e6' : nI X >>> ((6 : Int32) &&& 31) = nI X6 := e6
    have ra : nI X - nI X / 5 * 5 = nI (X % 5) := nI_rem (b := 5) hX (by omega)
    have rb : nI X3 - nI X3 / 5 * 5 = nI (X3 % 5) := nI_rem (b := 5) h3 (by omega)
    have rd : nI X6 - nI X6 / 9 * 9 = nI (X6 % 9) := nI_rem (b := 9) h6 (by omega)
    have rd1 : (1 : Int32) + nI (X6 % 9) = nI (1 + X6 % 9) := nI_add 1 (X6 % 9)
    have ma : X % 5 < 5 := Nat.mod_lt _ (by omega)
    have mb : X3 % 5 < 5 := Nat.mod_lt _ (by omega)
    have md : X6 % 9 < 9 := Nat.mod_lt _ (by omega)
    obtain ⟨a, eaa⟩ : ∃ a, a = X % 5 := ⟨_, rfl⟩
    obtain ⟨b, ebb⟩ : ∃ b, b = X3 % 5 := ⟨_, rfl⟩
    obtain ⟨d, edd⟩ : ∃ d, d = 1 + X6 % 9 := ⟨_, rfl⟩
    rw [← eaa] at ra ma
    rw [← ebb] at rb mb
    rw [← edd] at rd1
    have H0 := H
    obtain ⟨R, h1, h2, h3', h4, hS, hW, hz, hsy, hwr, hwe⟩ := H0
    rw [f_Law_law_h153, if_pos (show nI k < 6 from nI_lt (b := 6) (by omega) (by omega)), show (5 : Int32) + nI k = nI (5 + k) from nI_add 5 k, eX, ob]
    dsimp only
    rw [if_pos (by decide), e3', e6', ra, rb, rd, rd1]
    by_cases hab : a = b
    · rw [s_roadN R (d := nI d) (show a < c 1 by omega) (show b < c 1 by omega) hab, ob]
      dsimp only
      rw [if_pos (congrArg nI hab), f_Law_law_j219, if_pos rfl, if_pos (congrArg nI hab), ip_1]
      exact ih (k + 1) f w A c K r W (by omega) (by omega) (by omega) (by omega) H
    · have l00 := (hS a ma).1
      have l01 := (hS b mb).1
      obtain ⟨v, B, f1, f2, f3, g0, g1, g2, fr⟩ := s_road R (by omega) (i := a) (j := b) (dn := d) (by omega) (by omega) hab (by omega) (by omega) (by rw [l00, l01]) (by omega)
      rw [f1, ob]
      dsimp only
      rw [if_neg (nI_ne' (by omega) (by omega) hab), h2]
      exact l_219 hab ma mb (by omega) (by omega) (by omega) (by omega) H (fun v' A' c' W' q => ih (k + 1) f v' A' c' (K + 1) (r + 1) W' (by omega) (by omega) (by omega) (by omega) q) f3 f2 g0 g1 g2 fr
end C5

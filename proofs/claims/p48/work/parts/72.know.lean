/-! LAYER B: spans of numbers -/
section KS
variable {w v z0 : jW} {A : Nat → Int32} {c ci : Nat → Nat} {K : Nat}
def mkS (n : Nat) : Int64 := ((1 : Int64) <<< (Int32.toInt64 (nI n) &&& 63)) - 1
theorem mk_b : ∀ n, n < 64 → (mkS n).toBitVec = BitVec.ofNat 64 (2 ^ n - 1) := by decide +kernel
theorem gb_mk {n i : Nat} (hn : n < 64) : gb (mkS n) i = decide (i < n) := by
  unfold gb
  rw [mk_b n hn, BitVec.getLsbD_ofNat, Nat.testBit_two_pow_sub_one]
  by_cases h : i < n
  · simp [h, show i < 64 by omega]
  · simp [h]
theorem sh_n : ∀ n, n < 64 → ((Int32.toInt64 (nI n) &&& 63).toBitVec.smod 64).toNat = n := by decide +kernel
theorem gb_shn {x : Int64} {n i : Nat} (hn : n < 64) : gb (x <<< (Int32.toInt64 (nI n) &&& 63)) i = (decide (n ≤ i) && (decide (i < 64) && gb x (i - n))) := by
  unfold gb
  rw [show (x <<< (Int32.toInt64 (nI n) &&& 63)).toBitVec = x.toBitVec <<< ((Int32.toInt64 (nI n) &&& 63).toBitVec.smod 64).toNat from rfl, sh_n n hn, BitVec.getLsbD_shiftLeft]
  by_cases h : n ≤ i
  · simp [h, show ¬ i < n by omega]
  · simp [h, show i < n by omega]
theorem gb_m1 {i : Nat} : gb (-1) i = decide (i < 64) := by
  unfold gb
  rw [show (-1 : Int64).toBitVec = BitVec.ofNat 64 (2 ^ 64 - 1) from by decide, BitVec.getLsbD_ofNat, Nat.testBit_two_pow_sub_one]
  by_cases h : i < 64
  · simp [h]
  · simp [h]
def spF (a b : Nat) : Int64 := mkS (min b 40 + 1) &&& (mkS (min a 41) ^^^ (-1))
theorem gb_sp {a b i : Nat} : gb (spF a b) i = decide (a ≤ i ∧ i ≤ b ∧ i ≤ 40) := by
  unfold spF
  rw [gb_and, gb_xor, gb_mk (by omega), gb_mk (by omega), gb_m1]
  by_cases h1 : i < min b 40 + 1
  · by_cases h2 : i < min a 41
    · rw [decide_eq_true h1, decide_eq_true h2, decide_eq_true (show i < 64 by omega), decide_eq_false (by omega)]; rfl
    · rw [decide_eq_true h1, decide_eq_false h2, decide_eq_true (show i < 64 by omega), decide_eq_true (by omega)]; rfl
  · rw [decide_eq_false h1, Bool.false_and, decide_eq_false (by omega)]
theorem B41_sp {a b : Nat} : B41 (spF a b) := fun i hi => by rw [gb_sp]; simp; omega
theorem c_btw {a b : Nat} (ha : a ≤ 100) (hb : b ≤ 100) : f_Knowing_between (nI a) (nI b) w = some (spF a b, w) := by
  have e1 : (if (40 : Int32) < nI b then (40 : Int32) else nI b) = nI (min b 40) := by
    by_cases h : 40 < b
    · rw [if_pos (show (40 : Int32) < nI b from nI_lt (a := 40) h (by omega)), show min b 40 = 40 by omega]; rfl
    · rw [if_neg (show ¬ (40 : Int32) < nI b from nI_nlt (a := 40) (b := b) (by omega) (by omega)), show min b 40 = b by omega]
  have e2 : (if (41 : Int32) < nI a then (41 : Int32) else nI a) = nI (min a 41) := by
    by_cases h : 41 < a
    · rw [if_pos (show (41 : Int32) < nI a from nI_lt (a := 41) h (by omega)), show min a 41 = 41 by omega]; rfl
    · rw [if_neg (show ¬ (41 : Int32) < nI a from nI_nlt (a := 41) (b := a) (by omega) (by omega)), show min a 41 = a by omega]
  have e3 : (if (0 : Int32) < nI (min b 40) + 1 then nI (min b 40) + 1 else 0) = nI (min b 40 + 1) := by
    rw [ip_1, if_pos (show (0 : Int32) < nI (min b 40 + 1) from nI_lt (a := 0) (by omega) (by omega))]
  have e4 : (if (0 : Int32) < nI (min a 41) then nI (min a 41) else 0) = nI (min a 41) := by
    by_cases h : 0 < min a 41
    · rw [if_pos (show (0 : Int32) < nI (min a 41) from nI_lt (a := 0) h (by omega))]
    · rw [show min a 41 = 0 by omega]; rfl
  rw [f_Knowing_between]
  simp only [e1, e2, e3, e4]
  rfl
theorem c_keep {s a b : Nat} (hs : s < 4) (ha : a ≤ 100) (hb : b ≤ 100) : f_Knowing_keep (nI s) (nI a) (nI b) v = some (v.1, jup v.2 84 s (v.2 84 s &&& spF a b)) := by
  rw [f_Knowing_keep, if_neg (nI_pos (by omega)), nI_rfl 4, if_pos (nI_lt (by omega) (by omega)), c_btw ha hb]
  simp (disch := omega) only [jal_c, jal_n, jin_nI, Bool.and_true, ↓reduceIte, nI_clamp, jlw_e, ob]
/-- what the visits of a day at a site leave -/
def v1F (A : Nat → Int32) (x : Int32) (s : Nat) (d : Int32) (k : Nat) (y : Int64) : Int64 := if A (11280 + 12 * k + 1) = x ∧ A (11280 + 12 * k + 2) = d then y &&& spF (A (11280 + 12 * k + 3 + s)).toNatClampNeg ((A (11280 + 12 * k + 3 + s)).toNatClampNeg + (A (11280 + 12 * k + 7)).toNatClampNeg) else y
def viF (A : Nat → Int32) (x : Int32) (s : Nat) (d : Int32) : Nat → Nat → Int64 → Int64
  | 0, _, y => y
  | m + 1, k, y => viF A x s d m (k + 1) (v1F A x s d k y)
def p1F (A : Nat → Int32) (x : Int32) (s : Nat) (d : Int32) (k : Nat) (y : Int64) : Int64 := if A (20 + 4 * s) < A 16 then y else if A (12480 + 4 * k) = x ∧ A (12480 + 4 * k + 1) = d then y &&& spF 0 (A (12480 + 4 * k + 2)).toNatClampNeg else y
def piF (A : Nat → Int32) (x : Int32) (s : Nat) (d : Int32) : Nat → Nat → Int64 → Int64
  | 0, _, y => y
  | m + 1, k, y => piF A x s d m (k + 1) (p1F A x s d k y)
theorem pi_low {x d : Int32} {s : Nat} (h : A (20 + 4 * s) < A 16) : ∀ m k y, piF A x s d m k y = y := by
  intro m
  induction m with
  | zero => intro k y; rfl
  | succ m ih => intro k y; rw [piF, p1F, if_pos h, ih]
theorem a_viv (H : RA w 3 A c K) {k s : Nat} (hk : k < c 8) (hs : s < 4) : f_Rows_at 26 (nI k) (nI s) w = some (A (11280 + 12 * k + 3 + s), w) := by
  have : s = 0 ∨ s = 1 ∨ s = 2 ∨ s = 3 := by omega
  rcases this with rfl | rfl | rfl | rfl
  · exact a_vi0 H hk
  · exact a_vi1 H hk
  · exact a_vi2 H hk
  · exact a_vi3 H hk
theorem vi_ab (H : RA w 3 A c K) {k s : Nat} (hk : k < c 8) (hs : s < 4) : ∃ a b, A (11280 + 12 * k + 3 + s) = nI a ∧ A (11280 + 12 * k + 7) = nI b ∧ a ≤ 40 ∧ b ≤ 40 := by
  obtain ⟨s', v, e1, e2, e3, e4, e5, e6, e7, e8, e9⟩ := p_Ivis H k hk
  obtain ⟨a, a1, _, a2⟩ := e7 s (by omega)
  obtain ⟨b, b1, _, b2⟩ := e7 4 (by omega)
  exact ⟨a, b, a1, b1, a2, b2⟩
theorem c_vi48 {k3 : Int32 → Int32 → Int32 → jW → Option jW} {x d : Int32} {k : Nat} (hk : k < c 8) (hx : A (11280 + 12 * k + 1) = x) (hd : A (11280 + 12 * k + 2) = d) : ∀ m s f (v : jW), RA v 3 A c K → s + m = 4 → m < f → ∃ v', f_Knowing_visitedOn_h48 k3 f x d (nI k) (nI s) v = k3 x d (nI (k + 1)) v' ∧ v'.1 = v.1 ∧ ∀ r, r < 4 → v'.2 84 r = if r < s then v.2 84 r else v1F A x r d k (v.2 84 r) := by
  intro m
  induction m with
  | zero =>
    intro s f v H hs hf
    obtain ⟨f, rfl⟩ : ∃ j, f = j + 1 := ⟨f - 1, by omega⟩
    refine ⟨v, ?_, rfl, fun r hr => by rw [if_pos (by omega)]⟩
    rw [f_Knowing_visitedOn_h48, nI_rfl 4, if_neg (nI_nlt (by omega) (by omega)), ip_1]
  | succ m ih =>
    intro s f v H hs hf
    obtain ⟨f, rfl⟩ : ∃ j, f = j + 1 := ⟨f - 1, by omega⟩
    obtain ⟨a, b, a1, b1, a2, b2⟩ := vi_ab H hk (s := s) (by omega)
    obtain ⟨v', e1, e2, e3⟩ := ih (s + 1) f (v.1, jup v.2 84 s (v.2 84 s &&& spF a (a + b))) (RA_fr H (fun b _ _ _ => rfl)) (by omega) (by omega)
    refine ⟨v', ?_, e2, fun r hr => ?_⟩
    · rw [f_Knowing_visitedOn_h48, nI_rfl 4, if_pos (nI_lt (by omega) (by omega)), a_viv H hk (by omega), ob]
      dsimp only
      rw [a_vi4 H hk, ob]
      dsimp only
      rw [a1, b1, nI_add, c_keep (by omega) (by omega) (by omega), ob, ip_1]
      exact e1
    · rw [e3 r hr]
      dsimp only
      by_cases z : r = s
      · rw [if_pos (by omega), if_neg (by omega), z, jup_eq, v1F, if_pos ⟨hx, hd⟩, a1, b1, nI_clamp (by omega), nI_clamp (by omega)]
      · rw [jup_k z]
        by_cases z2 : r < s
        · rw [if_pos (by omega), if_pos z2]
        · rw [if_neg (by omega), if_neg z2]
theorem c_vis {x d : Int32} : ∀ m k f (v : jW), RA v 3 A c K → k + m = c 8 → m < f → ∃ v', f_Knowing_visitedOn_h3 f x d (nI k) v = some v' ∧ Kn v' v (fun s y => viF A x s d m k y) := by
  intro m
  induction m with
  | zero =>
    intro k f v H hk hf
    have l8 := l_8 H
    obtain ⟨f, rfl⟩ : ∃ j, f = j + 1 := ⟨f - 1, by omega⟩
    refine ⟨v, ?_, Kn_id⟩
    rw [f_Knowing_visitedOn_h3, n_vi H, ob]
    dsimp only
    rw [if_neg (nI_nlt (by omega) (by omega))]
  | succ m ih =>
    intro k f v H hk hf
    have l8 := l_8 H
    obtain ⟨f, rfl⟩ : ∃ j, f = j + 1 := ⟨f - 1, by omega⟩
    have hk8 : k < c 8 := by omega
    rw [f_Knowing_visitedOn_h3, n_vi H, ob]
    dsimp only
    rw [if_pos (nI_lt hk8 (by omega)), a_vi8 H hk8, ob]
    dsimp only
    by_cases g1 : A (11280 + 12 * k + 1) = x
    rotate_left
    · obtain ⟨v', e1, e2⟩ := ih (k + 1) f v H (by omega) (by omega)
      rw [if_neg g1, ip_1]
      exact ⟨v', e1, Kn_ex e2 fun s _ y => by rw [viF, v1F, if_neg (fun y => g1 y.1)]⟩
    rw [if_pos g1, a_vi6 H hk8, ob]
    dsimp only
    by_cases g2 : A (11280 + 12 * k + 2) = d
    rotate_left
    · obtain ⟨v', e1, e2⟩ := ih (k + 1) f v H (by omega) (by omega)
      rw [if_neg g2, ip_1]
      exact ⟨v', e1, Kn_ex e2 fun s _ y => by rw [viF, v1F, if_neg (fun y => g2 y.2)]⟩
    obtain ⟨u, k1, k2, k3⟩ := c_vi48 (k3 := f_Knowing_visitedOn_h3 f) hk8 g1 g2 4 0 jfu v H (by omega) (by unfold jfu; omega)
    have k4 : Kn u v (fun s y => v1F A x s d k y) := ⟨k2, fun s hs => by rw [k3 s hs, if_neg (by omega)]⟩
    obtain ⟨v', e1, e2⟩ := ih (k + 1) f u (Kn_RA k4 H) (by omega) (by omega)
    rw [if_pos g2]
    exact ⟨v', k1.trans e1, Kn_ex (Kn_t e2 k4) fun s _ y => by rw [viF]⟩
theorem c_pi46 {k3 : Int32 → Int32 → Int32 → jW → Option jW} {x d : Int32} {k : Nat} (hk : k < c 9) (hx : A (12480 + 4 * k) = x) (hd : A (12480 + 4 * k + 1) = d) : ∀ m s f (v : jW), RA v 3 A c K → s + m = 4 → m < f → ∃ v', f_Knowing_picturedOn_h46 k3 f x d (nI k) (nI s) v = k3 x d (nI (k + 1)) v' ∧ v'.1 = v.1 ∧ ∀ r, r < 4 → v'.2 84 r = if r < s then v.2 84 r else p1F A x r d k (v.2 84 r) := by
  intro m
  induction m with
  | zero =>
    intro s f v H hs hf
    obtain ⟨f, rfl⟩ : ∃ j, f = j + 1 := ⟨f - 1, by omega⟩
    refine ⟨v, ?_, rfl, fun r hr => by rw [if_pos (by omega)]⟩
    rw [f_Knowing_picturedOn_h46, nI_rfl 4, if_neg (nI_nlt (by omega) (by omega)), ip_1]
  | succ m ih =>
    intro s f v H hs hf
    obtain ⟨f, rfl⟩ : ∃ j, f = j + 1 := ⟨f - 1, by omega⟩
    obtain ⟨k0, k1, k2, k3', k4⟩ := p_Rscal H
    obtain ⟨x', d', n, q1, q2, q3, q4, q5, q6, q7⟩ := p_Ipic H k hk
    by_cases g : A (20 + 4 * s) < A 16
    · obtain ⟨v', e1, e2, e3⟩ := ih (s + 1) f v H (by omega) (by omega)
      refine ⟨v', ?_, e2, fun r hr => ?_⟩
      · rw [f_Knowing_picturedOn_h46, nI_rfl 4, if_pos (nI_lt (by omega) (by omega)), a_so0 H (by omega), ob]
        dsimp only
        rw [k3', if_pos g, ip_1]; exact e1
      · rw [e3 r hr]
        by_cases z : r = s
        · rw [if_pos (by omega), if_neg (by omega), z, p1F, if_pos g]
        · by_cases z2 : r < s
          · rw [if_pos (by omega), if_pos z2]
          · rw [if_neg (by omega), if_neg z2]
    obtain ⟨v', e1, e2, e3⟩ := ih (s + 1) f (v.1, jup v.2 84 s (v.2 84 s &&& spF 0 n)) (RA_fr H (fun b _ _ _ => rfl)) (by omega) (by omega)
    refine ⟨v', ?_, e2, fun r hr => ?_⟩
    · rw [f_Knowing_picturedOn_h46, nI_rfl 4, if_pos (nI_lt (by omega) (by omega)), a_so0 H (by omega), ob]
      dsimp only
      rw [k3', if_neg g, a_pc2 H hk, ob]
      dsimp only
      rw [q3, show f_Knowing_keep (nI s) 0 (nI n) v = _ from c_keep (a := 0) (by omega) (by omega) (by omega), ob, ip_1]
      exact e1
    · rw [e3 r hr]
      dsimp only
      by_cases z : r = s
      · rw [if_pos (by omega), if_neg (by omega), z, jup_eq, p1F, if_neg g, if_pos ⟨hx, hd⟩, q3, nI_clamp (by omega)]
      · rw [jup_k z]
        by_cases z2 : r < s
        · rw [if_pos (by omega), if_pos z2]
        · rw [if_neg (by omega), if_neg z2]
theorem c_pic {x d : Int32} : ∀ m k f (v : jW), RA v 3 A c K → k + m = c 9 → m < f → ∃ v', f_Knowing_picturedOn_h3 f x d (nI k) v = some v' ∧ Kn v' v (fun s y => piF A x s d m k y) := by
  intro m
  induction m with
  | zero =>
    intro k f v H hk hf
    have l9 := l_9 H
    obtain ⟨f, rfl⟩ : ∃ j, f = j + 1 := ⟨f - 1, by omega⟩
    refine ⟨v, ?_, Kn_id⟩
    rw [f_Knowing_picturedOn_h3, n_pc H, ob]
    dsimp only
    rw [if_neg (nI_nlt (by omega) (by omega))]
  | succ m ih =>
    intro k f v H hk hf
    have l9 := l_9 H
    obtain ⟨f, rfl⟩ : ∃ j, f = j + 1 := ⟨f - 1, by omega⟩
    have hk9 : k < c 9 := by omega
    have skip : ¬ (A (12480 + 4 * k) = x ∧ A (12480 + 4 * k + 1) = d) → ∀ s y, p1F A x s d k y = y := fun g s y => by
      rw [p1F, if_neg g]; split <;> rfl
    rw [f_Knowing_picturedOn_h3, n_pc H, ob]
    dsimp only
    rw [if_pos (nI_lt hk9 (by omega)), a_pc0 H hk9, ob]
    dsimp only
    by_cases g1 : A (12480 + 4 * k) = x
    rotate_left
    · obtain ⟨v', e1, e2⟩ := ih (k + 1) f v H (by omega) (by omega)
      rw [if_neg g1, ip_1]
      exact ⟨v', e1, Kn_ex e2 fun s _ y => by rw [piF, skip (fun y => g1 y.1)]⟩
    rw [if_pos g1, a_pc1 H hk9, ob]
    dsimp only
    by_cases g2 : A (12480 + 4 * k + 1) = d
    rotate_left
    · obtain ⟨v', e1, e2⟩ := ih (k + 1) f v H (by omega) (by omega)
      rw [if_neg g2, ip_1]
      exact ⟨v', e1, Kn_ex e2 fun s _ y => by rw [piF, skip (fun y => g2 y.2)]⟩
    obtain ⟨u, k1, k2, k3⟩ := c_pi46 (k3 := f_Knowing_picturedOn_h3 f) hk9 g1 g2 4 0 jfu v H (by omega) (by unfold jfu; omega)
    have k4 : Kn u v (fun s y => p1F A x s d k y) := ⟨k2, fun s hs => by rw [k3 s hs, if_neg (by omega)]⟩
    obtain ⟨v', e1, e2⟩ := ih (k + 1) f u (Kn_RA k4 H) (by omega) (by omega)
    rw [if_pos g2]
    exact ⟨v', k1.trans e1, Kn_ex (Kn_t e2 k4) fun s _ y => by rw [piF]⟩
end KS


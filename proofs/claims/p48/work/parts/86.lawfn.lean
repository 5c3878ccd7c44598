/-! LAYER C of p48: small numbers out of the script; the law's own where and whole (the first rows: pasted out of the kit's BITS) -/
def bt (x : Int32) (i : Nat) : Bool := x.toBitVec.getLsbD i
theorem bb_sl : ∀ n, n < 32 → ((nI n &&& 31).toBitVec.smod 32).toNat = n := by decide +kernel
theorem bb_sshr (n : Nat) (hn : n < 32) (x : Int32) {i : Nat} (hi : i < 32) : bt (x >>> (nI n &&& 31)) i = if n + i < 32 then bt x (n + i) else bt x 31 := by
  unfold bt
  rw [Int32.toBitVec_shiftRight]
  show (x.toBitVec.sshiftRight ((nI n &&& 31).toBitVec.smod 32).toNat).getLsbD i = _
  rw [bb_sl n hn, BitVec.getLsbD_sshiftRight, BitVec.msb_eq_getLsbD_last]
  simp [hi]
theorem nx_and (a b : Nat) : nI a &&& nI b = nI (a &&& b) := by
  apply Int32.toBitVec_inj.1
  show BitVec.ofNat 32 a &&& BitVec.ofNat 32 b = BitVec.ofNat 32 (a &&& b)
  apply BitVec.eq_of_getLsbD_eq
  intro i hi
  simp [hi]
theorem wb_of32 (x : Int32) : ∃ n, n < 2 ^ 32 ∧ x = nI n := ⟨x.toBitVec.toNat, x.toBitVec.isLt, Int32.toBitVec_inj.mp (by show _ = BitVec.ofNat 32 _; simp)⟩
/-- a mask leaves a small number -/
theorem ma_k (x : Int32) (m : Nat) : ∃ k, k ≤ m ∧ x &&& nI m = nI k := by
  obtain ⟨n, -, rfl⟩ := wb_of32 x
  exact ⟨n &&& m, Nat.and_le_right, nx_and n m⟩
theorem ng_bt (x : Int32) : bt x 31 = decide (x < 0) := by
  have e : bt x 31 = x.toBitVec.msb := by unfold bt; rw [BitVec.msb_eq_getLsbD_last]
  rw [e, BitVec.msb_eq_toInt]
  refine dec_eq ?_
  rw [Int32.lt_iff_toInt_lt, Int32.toInt_zero]
  rfl
theorem shr_n (n k : Nat) (hn : n < 2 ^ 31) (hk : k < 32) : ∃ j, j < 2 ^ 31 ∧ nI n >>> (nI k &&& 31) = nI j := by
  refine nI_of (fun z => ?_)
  have e := ng_bt (nI n >>> (nI k &&& 31))
  rw [decide_eq_true z, bb_sshr k hk (nI n) (by omega), ng_bt, decide_eq_false (nI_pos hn)] at e
  split at e
  · next h =>
    have k0 : k = 0 := by omega
    subst k0
    rw [Nat.zero_add, ng_bt, decide_eq_false (nI_pos hn)] at e
    exact absurd e (by decide)
  · exact absurd e (by decide)
theorem nI_div {a b : Nat} (ha : a < 2 ^ 31) (hb : b < 2 ^ 31) : nI a / nI b = nI (a / b) := by
  apply Int32.toInt_inj.mp
  rw [Int32.toInt_div_of_ne_right _ _ (nI_ne_m1 hb), nI_toInt ha, nI_toInt hb, nI_toInt (Nat.lt_of_le_of_lt (Nat.div_le_self a b) ha), Int.tdiv_eq_ediv_of_nonneg (by omega)]
  rfl
theorem nI_rem {a b : Nat} (ha : a < 2 ^ 31) (hb : b < 2 ^ 31) : nI a - nI a / nI b * nI b = nI (a % b) := by
  have e := Nat.div_add_mod a b
  have h : a / b * b ≤ a := Nat.div_mul_le_self a b
  rw [nI_div ha hb, nI_mul, nI_sub h]
  congr 1
  rw [Nat.mul_comm] at e
  omega
/-- a number out of the script -/
theorem pick_n {xs : Nat → Int32} {Ls : Nat} (hL : Ls ≤ 260) {k : Nat} (hk : k < 2 ^ 31) : ∃ n, n < 2 ^ 31 ∧ ∀ w : jW, f_Law_pick xs Ls (nI k) w = some (nI n, w) := by
  have eL : Int32.ofNat Ls = nI Ls := rfl
  by_cases z : Ls = 0
  · subst z
    exact ⟨0, by omega, fun w => by rw [f_Law_pick, if_pos (show Int32.ofNat 0 = 0 from rfl)]; rfl⟩
  · obtain ⟨j, h1, h2⟩ := ma_k ((xs (Int32.toNatClampNeg (nI k - nI k / (Int32.ofNat Ls) * (Int32.ofNat Ls)))) >>> (((nI k / (Int32.ofNat Ls)) - (nI k / (Int32.ofNat Ls)) / 8 * 8) &&& 31)) 2147483647
    refine ⟨j, by omega, fun w => ?_⟩
    have e0 : ¬ nI Ls = 0 := fun y => z ((nI_eq (b := 0) (by omega) (by omega)).mp y)
    have er := nI_rem (a := k) (b := Ls) hk (by omega)
    rw [f_Law_pick, eL, if_neg e0]
    rw [eL] at h2
    have g1 : jal [!(nI Ls == 0)] = true := by
      rw [jal_c, jal_n, Bool.and_true, Bool.not_eq_true', beq_eq_false_iff_ne]; exact e0
    have g2 : jal [!(8 == 0), !(nI Ls == 0)] = true := by
      rw [jal_c, g1]; decide
    rw [if_pos g1, if_pos (by rw [er]; exact jin_nI (Nat.mod_lt _ (by omega)) (by have := Nat.mod_lt k (show 0 < Ls by omega); omega)), if_pos g2]
    rw [show (2147483647 : Int32) = nI 2147483647 from rfl, h2]
theorem im_5 (k : Nat) : (5 : Int32) * nI k = nI (5 * k) := nI_mul 5 k
section C3
variable {w v : jW} {A : Nat → Int32} {c : Nat → Nat}
/-- the law's rows say what the tables say -/
def SYt (w : jW) (A : Nat → Int32) (c : Nat → Nat) : Prop := ∀ t, t < c 3 → w.1 98 (4 * t) = A (240 + 12 * t + 5) ∧ w.1 98 (4 * t + 1) = A (240 + 12 * t + 4) ∧ w.1 98 (4 * t + 2) = A (240 + 12 * t) ∧ w.1 98 (4 * t + 3) = A (240 + 12 * t + 7)
def SYm (w : jW) (A : Nat → Int32) (c : Nat → Nat) : Prop := ∀ k, k < c 4 → w.1 99 (5 * k) = A (720 + 8 * k) ∧ w.1 99 (5 * k + 1) = A (720 + 8 * k + 2) ∧ w.1 99 (5 * k + 2) = A (720 + 8 * k + 3) ∧ w.1 99 (5 * k + 3) = A (720 + 8 * k + 1) ∧ w.1 99 (5 * k + 4) = A (720 + 8 * k + 4)
def SYs (w : jW) (A : Nat → Int32) (c : Nat → Nat) : Prop := ∀ a, a < c 5 → w.1 100 (2 * a) = A (1520 + 4 * a) ∧ w.1 100 (2 * a + 1) = A (1520 + 4 * a + 1)
theorem lw_h (S : SYm w A c) (h4 : c 4 ≤ 16) {t : Nat} {d : Int32} : ∀ m k f (at_ : Int32), k + m = c 4 → m < f → f_Law_where_h50 f (nI (c 4)) (nI t) d at_ (nI k) w = some (msc A t d m k at_, w) := by
  intro m
  induction m with
  | zero =>
    intro k f at_ hk hf
    obtain ⟨f, rfl⟩ : ∃ j, f = j + 1 := ⟨f - 1, by omega⟩
    rw [f_Law_where_h50, if_neg (nI_nlt (by omega) (by omega))]; rfl
  | succ m ih =>
    intro k f at_ hk hf
    obtain ⟨f, rfl⟩ : ∃ j, f = j + 1 := ⟨f - 1, by omega⟩
    obtain ⟨s0, s1, s2, s3, s4⟩ := S k (by omega)
    rw [f_Law_where_h50, if_pos (nI_lt (by omega) (by omega)), msc]
    simp (disch := omega) only [im_5, ip_1, ip_2, ip_3, ip_4, jin_nI, jal_c, jal_n, nI_clamp, Bool.and_true, ↓reduceIte, s0, s2, s3, s4]
    by_cases z0 : A (720 + 8 * k) = nI t
    rotate_left
    · rw [if_neg z0, if_neg (fun y => z0 y.1)]; exact ih (k + 1) f _ (by omega) (by omega)
    rw [if_pos z0]
    by_cases z1 : A (720 + 8 * k + 1) ≤ d
    rotate_left
    · rw [if_neg z1, if_neg (fun y => z1 y.2)]; exact ih (k + 1) f _ (by omega) (by omega)
    rw [if_pos z1, if_pos (show A (720 + 8 * k) = nI t ∧ A (720 + 8 * k + 1) ≤ d from ⟨z0, z1⟩)]
    by_cases z2 : d < A (720 + 8 * k + 4)
    · rw [if_pos z2, if_pos z2]; exact ih (k + 1) f _ (by omega) (by omega)
    · rw [if_neg z2, if_neg z2]; exact ih (k + 1) f _ (by omega) (by omega)
theorem l_where (T : SYt w A c) (S : SYm w A c) (h3 : c 3 ≤ 8) (h4 : c 4 ≤ 16) {t : Nat} (ht : t < c 3) (d : Int32) : f_Law_where (nI (c 4)) (nI t) d w = some (mwh A (c 4) t d, w) := by
  obtain ⟨t0, t1, t2, t3⟩ := T t ht
  have q := lw_h S h4 (t := t) (d := d) (c 4) 0 jfu (A (240 + 12 * t + 5)) (by omega) (by unfold jfu; omega)
  have q40 : f_Law_where_j40 (nI (c 4)) (nI t) d w = some (msc A t d (c 4) 0 (A (240 + 12 * t + 5)), w) := by
    rw [f_Law_where_j40]
    simp (disch := omega) only [im_4, jin_nI, jal_c, jal_n, nI_clamp, Bool.and_true, ↓reduceIte, t0]
    exact q
  rw [f_Law_where, mwh]
  simp (disch := omega) only [im_4, ip_1, ip_3, jin_nI, jal_c, jal_n, nI_clamp, Bool.and_true, ↓reduceIte, t1, t3]
  by_cases z0 : d < A (240 + 12 * t + 4)
  · rw [if_pos z0, if_pos z0]
  rw [if_neg z0, if_neg z0]
  by_cases z1 : A (240 + 12 * t + 7) < 0
  · rw [if_pos z1, if_neg (fun y => y.1 z1), q40]
  rw [if_neg z1]
  by_cases z2 : d < A (240 + 12 * t + 7)
  · rw [if_pos z2, if_neg (fun y => y.2 z2), q40]
  · rw [if_neg z2, if_pos ⟨z1, z2⟩]
theorem l_wh_h (S : SYm w A c) (Z : SYs w A c) (h4 : c 4 ≤ 16) (h5 : c 5 ≤ 8) {a p : Nat} (ha : a < c 5) (hp : A (1520 + 4 * a + 1) = nI p) {d : Int32} : ∀ m k f, k + m = c 4 → m < f → f_Law_whole_h3 f (nI a) (nI (c 4)) d (nI k) w = some (bz (!brk A (A (1520 + 4 * a)) p d m k), w) := by
  obtain ⟨y0, y1⟩ := Z a ha
  rw [hp] at y1
  intro m
  induction m with
  | zero =>
    intro k f hk hf
    obtain ⟨f, rfl⟩ : ∃ j, f = j + 1 := ⟨f - 1, by omega⟩
    rw [f_Law_whole_h3, if_neg (nI_nlt (by omega) (by omega))]; rfl
  | succ m ih =>
    intro k f hk hf
    obtain ⟨f, rfl⟩ : ∃ j, f = j + 1 := ⟨f - 1, by omega⟩
    obtain ⟨s0, s1, s2, s3, s4⟩ := S k (by omega)
    have iH := ih (k + 1) f (by omega) (by omega)
    have J115 : ∀ l cm : Bool, f_Law_whole_j115 (f_Law_whole_h3 f) (nI a) (nI (c 4)) d (nI k) (bz l) (bz cm) w = if (l || cm) = true then some (0, w) else f_Law_whole_h3 f (nI a) (nI (c 4)) d (nI (k + 1)) w := fun l cm => by
      rw [f_Law_whole_j115, ip_1]
      cases l <;> cases cm <;> rfl
    have J61 : ∀ l : Bool, f_Law_whole_j61 (f_Law_whole_h3 f) (nI a) (nI (c 4)) d (nI k) (bz l) w = if (l || (decide (A (720 + 8 * k + 3) = A (1520 + 4 * a)) && (decide (¬ A (720 + 8 * k + 4) ≤ nI p) && decide (A (720 + 8 * k + 4) ≤ d)))) = true then some (0, w) else f_Law_whole_h3 f (nI a) (nI (c 4)) d (nI (k + 1)) w := fun l => by
      have j0 : f_Law_whole_j114 (f_Law_whole_h3 f) (nI a) (nI (c 4)) d (nI k) (bz l) w = if (l || false) = true then some (0, w) else f_Law_whole_h3 f (nI a) (nI (c 4)) d (nI (k + 1)) w := J115 l false
      have j1 : f_Law_whole_j115 (f_Law_whole_h3 f) (nI a) (nI (c 4)) d (nI k) (bz l) 1 w = if (l || true) = true then some (0, w) else f_Law_whole_h3 f (nI a) (nI (c 4)) d (nI (k + 1)) w := J115 l true
      rw [f_Law_whole_j61]
      simp (disch := omega) only [im_2, im_5, ip_1, ip_2, ip_4, jin_nI, jal_c, jal_n, nI_clamp, Bool.and_true, ↓reduceIte, s2, s4, y0, y1]
      by_cases z0 : A (720 + 8 * k + 3) = A (1520 + 4 * a)
      rotate_left
      · rw [if_neg z0, j0, decide_eq_false z0, Bool.false_and]
      rw [if_pos z0, decide_eq_true z0, Bool.true_and]
      by_cases z1 : A (720 + 8 * k + 4) ≤ nI p
      · rw [if_pos z1, j0, decide_eq_false (fun y => y z1), Bool.false_and]
      rw [if_neg z1, decide_eq_true z1, Bool.true_and]
      by_cases z2 : A (720 + 8 * k + 4) ≤ d
      · rw [if_pos z2, j1, decide_eq_true z2]
      · rw [if_neg z2, j0, decide_eq_false z2]
    have K0 : f_Law_whole_j60 (f_Law_whole_h3 f) (nI a) (nI (c 4)) d (nI k) w = _ := J61 false
    have K1 : f_Law_whole_j61 (f_Law_whole_h3 f) (nI a) (nI (c 4)) d (nI k) 1 w = _ := J61 true
    rw [f_Law_whole_h3, if_pos (nI_lt (by omega) (by omega)), brk]
    simp (disch := omega) only [im_2, im_5, ip_1, ip_3, jin_nI, jal_c, jal_n, nI_clamp, Bool.and_true, ↓reduceIte, s1, s3, y0, y1]
    generalize (decide (A (720 + 8 * k + 3) = A (1520 + 4 * a)) && (decide (¬ A (720 + 8 * k + 4) ≤ nI p) && decide (A (720 + 8 * k + 4) ≤ d))) = cm at *
    have fin0 : f_Law_whole_j60 (f_Law_whole_h3 f) (nI a) (nI (c 4)) d (nI k) w = some (bz (!(false || (cm || brk A (A (1520 + 4 * a)) p d m (k + 1)))), w) := by
      rw [K0]
      cases cm
      · rw [if_neg (by decide), iH]; rfl
      · rw [if_pos (by decide)]; rfl
    by_cases z0 : A (720 + 8 * k + 2) = A (1520 + 4 * a)
    rotate_left
    · rw [if_neg z0, fin0, decide_eq_false z0, Bool.false_and]
    rw [if_pos z0, decide_eq_true z0, Bool.true_and]
    by_cases z1 : A (720 + 8 * k + 1) ≤ nI p
    · rw [if_pos z1, fin0, decide_eq_false (fun y => y z1), Bool.false_and]
    rw [if_neg z1, decide_eq_true z1, Bool.true_and]
    by_cases z2 : A (720 + 8 * k + 1) ≤ d
    · rw [if_pos z2, K1, if_pos (by cases cm <;> rfl), decide_eq_true z2]; rfl
    · rw [if_neg z2, fin0, decide_eq_false z2]
theorem l_whole (S : SYm w A c) (Z : SYs w A c) (h4 : c 4 ≤ 16) (h5 : c 5 ≤ 8) {a p : Nat} (ha : a < c 5) (hp : A (1520 + 4 * a + 1) = nI p) (d : Int32) : f_Law_whole (nI a) (nI (c 4)) d w = some (bz (!brk A (A (1520 + 4 * a)) p d (c 4) 0), w) := l_wh_h S Z h4 h5 ha hp (c 4) 0 jfu (by omega) (by unfold jfu; omega)
end C3

/-! LAYER B: the reference's look at a day; spread -/
section KL
variable {w v z0 : jW} {A : Nat → Int32} {c ci : Nat → Nat} {K : Nat}
def snF (A : Nat → Int32) (c : Nat → Nat) (x : Int32) (s : Nat) (d kn : Int32) (y : Int64) : Int64 := if d + 1 ≤ kn then piF A x s (d + 1) (c 9) 0 (viF A x s (d + 1) (c 8) 0 y) else y
theorem gb_shrn {x : Int64} {n : Nat} (hn : n < 64) : gb (x >>> (Int32.toInt64 (nI n) &&& 63)) 0 = gb x n := by
  unfold gb
  rw [show (x >>> (Int32.toInt64 (nI n) &&& 63)).toBitVec = x.toBitVec.sshiftRight ((Int32.toInt64 (nI n) &&& 63).toBitVec.smod 64).toNat from rfl, sh_n n hn, BitVec.getLsbD_sshiftRight, if_pos (by omega), decide_eq_false (by omega)]
  rfl
theorem bit_1 {x : Int64} {n : Nat} (hn : n < 64) : (lg_cmp ((x >>> (Int32.toInt64 (nI n) &&& 63)) &&& 1) 1 = 0) = (gb x n = true) := by
  rw [← gb_shrn hn]
  exact propext (lg_0.trans gb_low)
theorem bit_0 {x : Int64} {n : Nat} (hn : n < 64) : (lg_cmp ((x >>> (Int32.toInt64 (nI n) &&& 63)) &&& 1) 0 = 0) = (gb x n = false) := by
  rw [← gb_shrn hn]
  generalize x >>> (Int32.toInt64 (nI n) &&& 63) = z
  refine propext (lg_0.trans ⟨fun h => ?_, fun h => ?_⟩)
  · have := congrArg (fun z => gb z 0) h
    simpa [gb_and, gb_1, gb_0] using this
  · apply gb_ext
    intro i _
    rw [gb_and, gb_1, gb_0]
    by_cases q : i = 0
    · subst q; simp [h]
    · simp [q]
def lsF (y : Int64) : Nat → Nat → Int32
  | 0, _ => -1
  | m + 1, k => if gb y k = true then nI k else lsF y m (k + 1)
def gsF (y : Int64) : Nat → Int32
  | 0 => -1
  | n + 1 => if gb y n = true then nI n else gsF y n
theorem ls_sp {y : Int64} : ∀ m k, (∃ j, k ≤ j ∧ j < k + m ∧ gb y j = true) → ∃ l, lsF y m k = nI l ∧ k ≤ l ∧ l < k + m ∧ gb y l = true ∧ ∀ j, k ≤ j → j < l → gb y j = false := by
  intro m
  induction m with
  | zero => rintro k ⟨j, h1, h2, _⟩; omega
  | succ m ih =>
    rintro k ⟨j, h1, h2, h3⟩
    rw [lsF]
    by_cases g : gb y k = true
    · rw [if_pos g]; exact ⟨k, rfl, by omega, by omega, g, fun j h1 h2 => by omega⟩
    · rw [if_neg g]
      have : j ≠ k := fun z => g (by rw [← z]; exact h3)
      obtain ⟨l, k1, k2, k3, k4, k5⟩ := ih (k + 1) ⟨j, by omega, by omega, h3⟩
      refine ⟨l, k1, by omega, by omega, k4, fun j h1 h2 => ?_⟩
      by_cases z : j = k
      · rw [z]; exact Bool.eq_false_iff.mpr g
      · exact k5 j (by omega) h2
theorem gs_sp {y : Int64} : ∀ n, (∃ j, j < n ∧ gb y j = true) → ∃ l, gsF y n = nI l ∧ l < n ∧ gb y l = true ∧ ∀ j, l < j → j < n → gb y j = false := by
  intro n
  induction n with
  | zero => rintro ⟨j, h1, _⟩; omega
  | succ n ih =>
    rintro ⟨j, h1, h3⟩
    rw [gsF]
    by_cases g : gb y n = true
    · rw [if_pos g]; exact ⟨n, rfl, by omega, g, fun j h1 h2 => by omega⟩
    · rw [if_neg g]
      have : j ≠ n := fun z => g (by rw [← z]; exact h3)
      obtain ⟨l, k1, k2, k3, k4⟩ := ih ⟨j, by omega, h3⟩
      refine ⟨l, k1, by omega, k3, fun j h1 h2 => ?_⟩
      by_cases z : j = n
      · rw [z]; exact Bool.eq_false_iff.mpr g
      · exact k4 j h1 (by omega)
theorem ex_bit {y : Int64} (h : B41 y) (h0 : y ≠ 0) : ∃ j, j < 41 ∧ gb y j = true := by
  by_cases q : ∃ j, j < 41 ∧ gb y j = true
  · exact q
  · refine absurd (gb_ext fun i _ => ?_) h0
    rw [gb_0]
    by_cases z : i < 41
    · exact Bool.eq_false_iff.mpr fun u => q ⟨i, z, u⟩
    · exact h i (by omega)
def upC (y : Int64) : Int64 := if y = 0 then y else spF (lsF y 41 0).toNatClampNeg 40
def dnC (y : Int64) : Int64 := if y = 0 then y else spF 0 (gsF y 41).toNatClampNeg
theorem gb_upC {y : Int64} (h : B41 y) (i : Nat) : gb (upC y) i = true ↔ i ≤ 40 ∧ ∃ j, j ≤ i ∧ gb y j = true := by
  unfold upC
  by_cases z : y = 0
  · rw [if_pos z, z, gb_0]
    exact ⟨fun q => absurd q (by decide), fun ⟨_, j, _, q⟩ => by rw [gb_0] at q; exact absurd q (by decide)⟩
  · obtain ⟨j, j1, j2⟩ := ex_bit h z
    obtain ⟨l, k1, k2, k3, k4, k5⟩ := ls_sp 41 0 ⟨j, by omega, by omega, j2⟩
    rw [if_neg z, gb_sp, k1, nI_clamp (by omega), decide_eq_true_iff]
    refine ⟨fun q => ⟨by omega, l, by omega, k4⟩, fun ⟨q1, j, q2, q3⟩ => ⟨?_, by omega, by omega⟩⟩
    by_cases u : l ≤ i
    · exact u
    · rw [k5 j (by omega) (by omega)] at q3; exact absurd q3 (by decide)
theorem gb_dnC {y : Int64} (h : B41 y) (i : Nat) : gb (dnC y) i = true ↔ ∃ j, i ≤ j ∧ gb y j = true := by
  unfold dnC
  by_cases z : y = 0
  · rw [if_pos z, z, gb_0]
    exact ⟨fun q => absurd q (by decide), fun ⟨j, _, q⟩ => by rw [gb_0] at q; exact absurd q (by decide)⟩
  · obtain ⟨l, k1, k2, k3, k4⟩ := gs_sp 41 (ex_bit h z)
    rw [if_neg z, gb_sp, k1, nI_clamp (by omega), decide_eq_true_iff]
    refine ⟨fun q => ⟨l, by omega, k3⟩, fun ⟨j, q2, q3⟩ => ⟨by omega, ?_, ?_⟩⟩
    · have : j < 41 := by
        by_cases u : j < 41
        · exact u
        · rw [h j (by omega)] at q3; exact absurd q3 (by decide)
      by_cases u : j ≤ l
      · omega
      · rw [k4 j (by omega) this] at q3; exact absurd q3 (by decide)
    · have : j < 41 := by
        by_cases u : j < 41
        · exact u
        · rw [h j (by omega)] at q3; exact absurd q3 (by decide)
      omega
theorem B41_upC {y : Int64} (h : B41 y) : B41 (upC y) := by
  unfold upC; split
  · exact h
  · exact B41_sp
theorem B41_dnC {y : Int64} (h : B41 y) : B41 (dnC y) := by
  unfold dnC; split
  · exact h
  · exact B41_sp
/-- forty steps up are the whole way up -/
def upN : Nat → Int64 → Int64
  | 0, y => y
  | n + 1, y => upN n (y ||| upS y)
def dnN : Nat → Int64 → Int64
  | 0, y => y
  | n + 1, y => dnN n (y ||| dnS y)
theorem B41_upN : ∀ n y, B41 y → B41 (upN n y) := by
  intro n
  induction n with
  | zero => intro y h; exact h
  | succ n ih => intro y h; exact ih _ (B41_or h B41_up)
theorem gb_upN : ∀ n (y : Int64), B41 y → ∀ i, gb (upN n y) i = true ↔ i ≤ 40 ∧ ∃ j, j ≤ i ∧ i ≤ j + n ∧ gb y j = true := by
  intro n
  induction n with
  | zero =>
    intro y h i
    refine ⟨fun q => ⟨?_, i, by omega, by omega, q⟩, fun ⟨_, j, q1, q2, q3⟩ => ?_⟩
    · by_cases u : i ≤ 40
      · exact u
      · have q' : gb y i = true := q
        rw [h i (by omega)] at q'; exact absurd q' (by decide)
    · rw [show i = j by omega]; exact q3
  | succ n ih =>
    intro y h i
    rw [upN, ih _ (B41_or h B41_up)]
    refine ⟨fun ⟨q0, j, q1, q2, q3⟩ => ⟨q0, ?_⟩, fun ⟨q0, j, q1, q2, q3⟩ => ⟨q0, ?_⟩⟩
    · rw [gb_or, gb_up, Bool.or_eq_true, Bool.and_eq_true, Bool.and_eq_true, decide_eq_true_iff, decide_eq_true_iff] at q3
      rcases q3 with q3 | ⟨q3, q4, q5⟩
      · exact ⟨j, q1, by omega, q3⟩
      · exact ⟨j - 1, by omega, by omega, q5⟩
    · by_cases z : i ≤ j + n
      · exact ⟨j, q1, z, by rw [gb_or, q3]; rfl⟩
      · refine ⟨j + 1, by omega, by omega, ?_⟩
        rw [gb_or, gb_up, Nat.add_sub_cancel, q3, decide_eq_true (by omega), decide_eq_true (by omega)]
        simp
theorem gb_dnN : ∀ n (y : Int64), B41 y → ∀ i, gb (dnN n y) i = true ↔ ∃ j, i ≤ j ∧ j ≤ i + n ∧ gb y j = true := by
  intro n
  induction n with
  | zero =>
    intro y h i
    refine ⟨fun q => ⟨i, by omega, by omega, q⟩, fun ⟨j, q1, q2, q3⟩ => ?_⟩
    rw [show i = j by omega]; exact q3
  | succ n ih =>
    intro y h i
    rw [dnN, ih _ (B41_or h (B41_dn h))]
    refine ⟨fun ⟨j, q1, q2, q3⟩ => ?_, fun ⟨j, q1, q2, q3⟩ => ?_⟩
    · rw [gb_or, gb_dn h, Bool.or_eq_true] at q3
      rcases q3 with q3 | q3
      · exact ⟨j, q1, by omega, q3⟩
      · exact ⟨j + 1, by omega, by omega, q3⟩
    · by_cases z : j ≤ i + n
      · exact ⟨j, q1, z, by rw [gb_or, q3]; rfl⟩
      · refine ⟨j - 1, by omega, by omega, ?_⟩
        rw [gb_or, gb_dn h, show j - 1 + 1 = j by omega, q3, Bool.or_true]
theorem up40 {y : Int64} (h : B41 y) : upN 40 y = upC y := gb_ext fun i _ => by
  refine Bool.eq_iff_iff.mpr ?_
  rw [gb_upN 40 y h, gb_upC h]
  exact ⟨fun ⟨q0, j, q1, q2, q3⟩ => ⟨q0, j, q1, q3⟩, fun ⟨q0, j, q1, q3⟩ => ⟨q0, j, q1, by omega, q3⟩⟩
theorem dn40 {y : Int64} (h : B41 y) : dnN 40 y = dnC y := gb_ext fun i _ => by
  refine Bool.eq_iff_iff.mpr ?_
  rw [gb_dnN 40 y h, gb_dnC h]
  refine ⟨fun ⟨j, q1, q2, q3⟩ => ⟨j, q1, q3⟩, fun ⟨j, q1, q3⟩ => ⟨j, q1, ?_, q3⟩⟩
  by_cases u : j < 41
  · omega
  · rw [h j (by omega)] at q3; exact absurd q3 (by decide)
theorem B41_dnN : ∀ n y, B41 y → B41 (dnN n y) := by
  intro n
  induction n with
  | zero => intro y h; exact h
  | succ n ih => intro y h; exact ih _ (B41_or h (B41_dn h))
theorem upC_2 {y : Int64} (h : B41 y) : upC (upC y) = upC y := gb_ext fun i _ => by
  refine Bool.eq_iff_iff.mpr ?_
  rw [gb_upC (B41_upC h)]
  constructor
  · rintro ⟨q0, j, q1, q2⟩
    obtain ⟨q3, l, q4, q5⟩ := (gb_upC h j).mp q2
    exact (gb_upC h i).mpr ⟨q0, l, by omega, q5⟩
  · exact fun q => ⟨((gb_upC h i).mp q).1, i, by omega, q⟩
theorem dnC_2 {y : Int64} (h : B41 y) : dnC (dnC y) = dnC y := gb_ext fun i _ => by
  refine Bool.eq_iff_iff.mpr ?_
  rw [gb_dnC (B41_dnC h)]
  constructor
  · rintro ⟨j, q1, q2⟩
    obtain ⟨l, q4, q5⟩ := (gb_dnC h j).mp q2
    exact (gb_dnC h i).mpr ⟨l, by omega, q5⟩
  · exact fun q => ⟨i, by omega, q⟩
theorem upC_f : upC fu41 = fu41 := gb_ext fun i _ => by
  refine Bool.eq_iff_iff.mpr ?_
  rw [gb_upC B41_full, gb_full, decide_eq_true_iff]
  exact ⟨fun q => by omega, fun q => ⟨by omega, i, by omega, by rw [gb_full]; exact decide_eq_true q⟩⟩
theorem dnC_f : dnC fu41 = fu41 := gb_ext fun i _ => by
  refine Bool.eq_iff_iff.mpr ?_
  rw [gb_dnC B41_full, gb_full, decide_eq_true_iff]
  refine ⟨fun ⟨j, q1, q2⟩ => ?_, fun q => ⟨i, by omega, by rw [gb_full]; exact decide_eq_true q⟩⟩
  rw [gb_full, decide_eq_true_iff] at q2; omega
end KL


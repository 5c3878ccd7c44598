/-! LAYER B: the portal and the sets of numbers -/
section KP
variable {w v z0 : jW} {A : Nat → Int32} {c ci : Nat → Nat} {K : Nat}
def fu41 : Int64 := 2199023255551
theorem gb_full {i : Nat} : gb fu41 i = decide (i < 41) := by
  unfold gb fu41
  rw [show (2199023255551 : Int64).toBitVec = BitVec.ofNat 64 (2 ^ 41 - 1) from by decide, BitVec.getLsbD_ofNat, Nat.testBit_two_pow_sub_one]
  by_cases h : i < 41
  · simp [h, show i < 64 by omega]
  · simp [h]
def B41 (x : Int64) : Prop := ∀ i, 41 ≤ i → gb x i = false
theorem B41_full : B41 fu41 := fun i hi => by rw [gb_full]; simp; omega
theorem B41_and {x y : Int64} (h : B41 y) : B41 (x &&& y) := fun i hi => by rw [gb_and, h i hi, Bool.and_false]
theorem B41_and1 {x y : Int64} (h : B41 x) : B41 (x &&& y) := fun i hi => by rw [gb_and, h i hi, Bool.false_and]
theorem B41_or {x y : Int64} (h : B41 x) (g : B41 y) : B41 (x ||| y) := fun i hi => by rw [gb_or, h i hi, g i hi]; rfl
def dnS (x : Int64) : Int64 := x >>> (Int32.toInt64 1 &&& 63)
def upS (x : Int64) : Int64 := (x <<< (Int32.toInt64 1 &&& 63)) &&& 2199023255551
theorem gb_dn {x : Int64} (h : B41 x) {i : Nat} : gb (dnS x) i = gb x (i + 1) := gb_shr (h 63 (by omega))
theorem gb_up {x : Int64} {i : Nat} : gb (upS x) i = (decide (1 ≤ i) && (decide (i < 41) && gb x (i - 1))) := by
  unfold upS
  rw [gb_and, gb_shl, show (2199023255551 : Int64) = fu41 from rfl, gb_full]
  by_cases h : i < 41
  · simp [h, show i < 64 by omega]
  · simp [h]
theorem B41_up {x : Int64} : B41 (upS x) := fun i hi => by rw [gb_up]; simp; omega
theorem B41_dn {x : Int64} (h : B41 x) : B41 (dnS x) := fun i hi => by rw [gb_dn h]; exact h _ (by omega)
theorem udn {x : Int64} (h : B41 x) : ((Int64.toUInt64 x) >>> ((Int32.toInt64 1).toUInt64 &&& Int64.toUInt64 63)).toInt64 = dnS x := by
  apply gb_ext
  intro i _
  rw [gb_dn h]
  unfold gb
  rw [show (((Int64.toUInt64 x) >>> ((Int32.toInt64 1).toUInt64 &&& Int64.toUInt64 63)).toInt64).toBitVec = x.toBitVec >>> 1 from rfl, BitVec.getLsbD_ushiftRight, Nat.add_comm]
/-- whether no sort but s fits, from the k-th on -/
def onF (A : Nat → Int32) (s t : Nat) : Nat → Nat → Bool
  | 0, _ => true
  | m + 1, k => (decide (k = s) || decide (fitF A k t = 0)) && onF A s t m (k + 1)
def cnF (A : Nat → Int32) (t : Nat) : Nat → Nat → Nat
  | 0, _ => 0
  | m + 1, k => (if fitF A k t = 0 then 0 else 1) + cnF A t m (k + 1)
theorem on_cn {s t : Nat} (hs : s < 4) (hf : ¬ fitF A s t = 0) : (cnF A t 4 0 = 1) = (onF A s t 4 0 = true) := by
  have : s = 0 ∨ s = 1 ∨ s = 2 ∨ s = 3 := by omega
  rcases this with rfl | rfl | rfl | rfl <;> by_cases f0 : fitF A 0 t = 0 <;> by_cases f1 : fitF A 1 t = 0 <;> by_cases f2 : fitF A 2 t = 0 <;> by_cases f3 : fitF A 3 t = 0 <;> simp_all [cnF, onF]
def shF (A : Nat → Int32) (s t : Nat) (a : Bool) (x : Int64) : Int64 := if fitF A s t = 0 then x else if onF A s t 4 0 = true then (if a = true then upS x else dnS x) else x ||| (if a = true then upS x else dnS x)
theorem B41_sh {s t : Nat} {a : Bool} {x : Int64} (h : B41 x) : B41 (shF A s t a x) := by
  have : B41 (if a = true then upS x else dnS x) := by
    split
    · exact B41_up
    · exact B41_dn h
  unfold shF
  split
  · exact h
  · split
    · exact this
    · exact B41_or h this
theorem or_cm (x y : Int64) : x ||| y = y ||| x := gb_ext fun i _ => by rw [gb_or, gb_or, Bool.or_comm]
/-- the class's four sets, each by its own function -/
def Kn (v w : jW) (F : Nat → Int64 → Int64) : Prop := v.1 = w.1 ∧ ∀ s, s < 4 → v.2 84 s = F s (w.2 84 s)
theorem c_pp6 (H : RA w 3 A c K) {t : Nat} (ht : t < c 3) (x3 : Int32) : ∀ m k f n, k + m = 4 → m < f → f_Knowing_passPortal_h6 f (nI t) x3 (nI n) (nI k) w = f_Knowing_passPortal_h45 jfu (nI t) x3 (nI (n + cnF A t m k)) 0 w := by
  intro m
  induction m with
  | zero =>
    intro k f n hk hf
    obtain ⟨f, rfl⟩ : ∃ j, f = j + 1 := ⟨f - 1, by omega⟩
    rw [f_Knowing_passPortal_h6, nI_rfl 4, if_neg (nI_nlt (by omega) (by omega))]; rfl
  | succ m ih =>
    intro k f n hk hf
    obtain ⟨f, rfl⟩ : ∃ j, f = j + 1 := ⟨f - 1, by omega⟩
    rw [f_Knowing_passPortal_h6, nI_rfl 4, if_pos (nI_lt (by omega) (by omega)), c_fits H ht (by omega), ob, cnF]
    dsimp only
    by_cases g : fitF A k t = 0
    · rw [if_pos g, if_pos g, show nI n + 0 = nI n from Int32.add_zero _, ip_1, ih (k + 1) f n (by omega) (by omega), Nat.zero_add]
    · rw [if_neg g, if_neg g, ip_1, ip_1, ih (k + 1) f (n + 1) (by omega) (by omega), Nat.add_assoc]
theorem cnF_le {t : Nat} : ∀ m k, cnF A t m k ≤ m := by
  intro m
  induction m with
  | zero => intro k; exact Nat.le_refl 0
  | succ m ih => intro k; have := ih (k + 1); rw [cnF]; split <;> omega
theorem c_pp45 {t : Nat} {a : Bool} (h4 : ∀ s, s < 4 → True) : ∀ m k f (v : jW), RA v 3 A c K → t < c 3 → k + m = 4 → m < f → ∃ v', f_Knowing_passPortal_h45 f (nI t) (if a = true then 0 else 1) (nI (cnF A t 4 0)) (nI k) v = some v' ∧ v'.1 = v.1 ∧ ∀ s, s < 4 → v'.2 84 s = if s < k then v.2 84 s else shF A s t a (v.2 84 s) := by
  have cl := cnF_le (A := A) (t := t) 4 0
  intro m
  induction m with
  | zero =>
    intro k f v H ht hk hf
    obtain ⟨f, rfl⟩ : ∃ j, f = j + 1 := ⟨f - 1, by omega⟩
    refine ⟨v, ?_, rfl, fun s hs => by rw [if_pos (by omega)]⟩
    rw [f_Knowing_passPortal_h45, nI_rfl 4, if_neg (nI_nlt (by omega) (by omega))]
  | succ m ih =>
    intro k f v H ht hk hf
    obtain ⟨f, rfl⟩ : ∃ j, f = j + 1 := ⟨f - 1, by omega⟩
    have hk4 : k < 4 := by omega
    by_cases g : fitF A k t = 0
    · obtain ⟨v', e1, e2, e3⟩ := ih (k + 1) f v H ht (by omega) (by omega)
      refine ⟨v', ?_, e2, fun s hs => ?_⟩
      · rw [f_Knowing_passPortal_h45, nI_rfl 4, if_pos (nI_lt (by omega) (by omega)), c_fits H ht (by omega), ob]
        dsimp only
        rw [if_pos g, ip_1]; exact e1
      · rw [e3 s hs]
        by_cases z : s = k
        · rw [if_pos (by omega), if_neg (by omega), z, shF, if_pos g]
        · by_cases z2 : s < k
          · rw [if_pos (by omega), if_pos z2]
          · rw [if_neg (by omega), if_neg z2]
    · obtain ⟨y, hy⟩ : ∃ y, y = shF A k t a (v.2 84 k) := ⟨_, rfl⟩
      obtain ⟨v', e1, e2, e3⟩ := ih (k + 1) f (v.1, jup v.2 84 k y) (RA_fr H (fun b _ _ _ => rfl)) ht (by omega) (by omega)
      refine ⟨v', ?_, e2, fun s hs => ?_⟩
      · rw [← e1]
        rw [f_Knowing_passPortal_h45, nI_rfl 4, if_pos (nI_lt (by omega) (by omega)), c_fits H ht (by omega), ob]
        dsimp only
        rw [if_neg g]
        have key : ∀ z : Int64, z = (if a = true then upS (v.2 84 k) else dnS (v.2 84 k)) → f_Knowing_passPortal_j94 (f_Knowing_passPortal_h45 f) (nI t) (if a = true then 0 else 1) (nI (cnF A t 4 0)) (nI k) z v = f_Knowing_passPortal_h45 f (nI t) (if a = true then 0 else 1) (nI (cnF A t 4 0)) (nI (k + 1)) (v.1, jup v.2 84 k y) := fun z hz => by
          have ec : (nI (cnF A t 4 0) = 1) = (onF A k t 4 0 = true) := by
            rw [show (1 : Int32) = nI 1 from rfl, ii_eq (by omega) (by omega)]; exact on_cn hk4 g
          rw [f_Knowing_passPortal_j94]
          simp only [ec]
          by_cases g2 : onF A k t 4 0 = true
          · rw [if_pos g2]
            simp (disch := omega) only [jal_c, jal_n, jin_nI, Bool.and_true, ↓reduceIte, nI_clamp, jlw_e, ip_1]
            rw [hy, shF, if_neg g, if_pos g2, hz]
          · rw [if_neg g2]
            simp (disch := omega) only [jal_c, jal_n, jin_nI, Bool.and_true, ↓reduceIte, nI_clamp, jlw_e, ip_1]
            rw [hy, shF, if_neg g, if_neg g2, hz]
        cases a
        · rw [if_neg (by decide)]
          simp (disch := omega) only [jal_c, jal_n, jin_nI, Bool.and_true, ↓reduceIte, nI_clamp]
          exact key _ rfl
        · rw [if_pos (by decide)]
          simp (disch := omega) only [jal_c, jal_n, jin_nI, Bool.and_true, ↓reduceIte, nI_clamp]
          exact key _ rfl
      · rw [e3 s hs]
        dsimp only
        by_cases z : s = k
        · rw [if_pos (by omega), if_neg (by omega), z, jup_eq, hy]
        · rw [jup_k z]
          by_cases z2 : s < k
          · rw [if_pos (by omega), if_pos z2]
          · rw [if_neg (by omega), if_neg z2]
theorem c_pass (H : RA v 3 A c K) {t : Nat} (ht : t < c 3) (a : Bool) : ∃ v', f_Knowing_passPortal (nI t) (if a = true then 0 else 1) v = some v' ∧ Kn v' v (fun s x => shF A s t a x) := by
  obtain ⟨v', e1, e2, e3⟩ := c_pp45 (A := A) (t := t) (a := a) (fun _ _ => trivial) 4 0 jfu v H ht (by omega) (by unfold jfu; omega)
  refine ⟨v', ?_, e2, fun s hs => by rw [e3 s hs, if_neg (by omega)]⟩
  rw [f_Knowing_passPortal]
  have := c_pp6 H ht (if a = true then 0 else 1) 4 0 jfu 0 (by omega) (by unfold jfu; omega)
  rw [Nat.zero_add] at this
  exact this.trans e1
end KP


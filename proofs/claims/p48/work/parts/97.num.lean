/-! LAYER C of p48: shares: the numbers -/
def lpr : List Nat → Nat
  | [] => 1
  | x :: l => x * lpr l
def lsq (D : Nat) : List Nat → Nat
  | [] => 0
  | x :: l => D / x + lsq D l
def lmn : Nat → List Nat → Nat
  | b, [] => b
  | b, x :: l => lmn (if x < b then x else b) l
section E1
theorem lpr_dvd : ∀ (l : List Nat), ∀ x ∈ l, x ∣ lpr l := by
  intro l
  induction l with
  | nil => intro x hx; cases hx
  | cons y l ih =>
    intro x hx
    rw [lpr]
    rcases List.mem_cons.mp hx with rfl | h
    · exact Nat.dvd_mul_right _ _
    · exact Nat.dvd_trans (ih x h) (Nat.dvd_mul_left _ _)
theorem lpr_pos : ∀ (l : List Nat), (∀ x ∈ l, 1 ≤ x) → 1 ≤ lpr l := by
  intro l
  induction l with
  | nil => intro _; exact Nat.le_refl _
  | cons y l ih =>
    intro h
    rw [lpr]
    exact Nat.mul_pos (h y List.mem_cons_self) (ih (fun x hx => h x (List.mem_cons_of_mem _ hx)))
theorem lsq_mul {E k : Nat} : ∀ (l : List Nat), (∀ x ∈ l, x ∣ E) → lsq (k * E) l = k * lsq E l := by
  intro l
  induction l with
  | nil => intro _; rfl
  | cons y l ih =>
    intro h
    rw [lsq, lsq, ih (fun x hx => h x (List.mem_cons_of_mem _ hx)), Nat.mul_add, Nat.mul_div_assoc k (h y List.mem_cons_self)]
theorem lsq_app {D : Nat} : ∀ (l l' : List Nat), lsq D (l ++ l') = lsq D l + lsq D l' := by
  intro l
  induction l with
  | nil => intro l'; rw [List.nil_append, lsq, Nat.zero_add]
  | cons y l ih => intro l'; rw [List.cons_append, lsq, lsq, ih, Nat.add_assoc]
theorem lsq_self {x : Nat} {l : List Nat} (hx : 1 ≤ x) : lsq (lpr (x :: l)) (x :: l) = lpr l + x * lsq (lpr l) l := by
  rw [lsq, lpr, Nat.mul_div_cancel_left _ hx, lsq_mul l (lpr_dvd l)]
theorem evl3_l : ∀ (l : List Nat) (p s b : Nat), (∀ x ∈ l, 1 ≤ x) → evl3 p s b l = (p * lpr l, s * lpr l + p * lsq (lpr l) l, lmn b l) := by
  intro l
  induction l with
  | nil => intro p s b _; rw [evl3, lpr, lsq, lmn, Nat.mul_one, Nat.mul_one, Nat.mul_zero, Nat.add_zero]
  | cons x l ih =>
    intro p s b h
    have hx := h x List.mem_cons_self
    rw [evl3, ih _ _ _ (fun y hy => h y (List.mem_cons_of_mem _ hy)), lsq_self hx, lpr, lmn]
    refine Prod.ext ?_ (Prod.ext ?_ rfl)
    · show p * x * lpr l = p * (x * lpr l)
      rw [Nat.mul_assoc]
    · show (s * x + p) * lpr l + p * x * lsq (lpr l) l = s * (x * lpr l) + p * (lpr l + x * lsq (lpr l) l)
      rw [Nat.add_mul, Nat.mul_add, Nat.mul_assoc, Nat.mul_assoc, Nat.add_assoc]
theorem lmn_le : ∀ (l : List Nat) (b : Nat), lmn b l ≤ b ∧ (∀ x ∈ l, lmn b l ≤ x) ∧ (lmn b l = b ∨ lmn b l ∈ l) := by
  intro l
  induction l with
  | nil => intro b; exact ⟨Nat.le_refl _, (fun x hx => by cases hx), Or.inl rfl⟩
  | cons y l ih =>
    intro b
    rw [lmn]
    obtain ⟨h1, h2, h3⟩ := ih (if y < b then y else b)
    have hb : (if y < b then y else b) ≤ b ∧ (if y < b then y else b) ≤ y := by split <;> omega
    refine ⟨by omega, fun x hx => ?_, ?_⟩
    · rcases List.mem_cons.mp hx with rfl | h
      · omega
      · exact h2 x h
    · rcases h3 with h3 | h3
      · by_cases z : y < b
        · rw [if_pos z] at h3 ⊢
          exact Or.inr (by rw [h3]; exact List.mem_cons_self)
        · rw [if_neg z] at h3 ⊢
          exact Or.inl h3
      · exact Or.inr (List.mem_cons_of_mem _ h3)
theorem lpr_50 : ∀ (l : List Nat), (∀ x ∈ l, x ≤ 50) → lpr l ≤ 50 ^ l.length := by
  intro l
  induction l with
  | nil => intro _; exact Nat.le_refl _
  | cons y l ih =>
    intro h
    rw [lpr, List.length_cons, Nat.pow_succ, Nat.mul_comm]
    exact Nat.mul_le_mul (ih (fun x hx => h x (List.mem_cons_of_mem _ hx))) (h y List.mem_cons_self)
theorem lsq_50 : ∀ (l : List Nat), (∀ x ∈ l, 1 ≤ x ∧ x ≤ 50) → 50 * lsq (lpr l) l ≤ l.length * 50 ^ l.length := by
  intro l
  induction l with
  | nil => intro _; exact Nat.le_refl _
  | cons y l ih =>
    intro h
    have hy := h y List.mem_cons_self
    have i1 := ih (fun x hx => h x (List.mem_cons_of_mem _ hx))
    have i2 := lpr_50 l (fun x hx => (h x (List.mem_cons_of_mem _ hx)).2)
    have a1 : 50 * (y * lsq (lpr l) l) ≤ l.length * (50 ^ l.length * 50) := by
      rw [Nat.mul_left_comm]
      refine Nat.le_trans (Nat.mul_le_mul_left y i1) ?_
      rw [← Nat.mul_assoc l.length (50 ^ l.length) 50, Nat.mul_comm (l.length * 50 ^ l.length) 50]
      exact Nat.mul_le_mul_right _ hy.2
    rw [lsq_self hy.1, List.length_cons, Nat.mul_add, Nat.add_mul l.length 1, Nat.one_mul, Nat.pow_succ]
    omega
/-! one share: U / (L x) with U D = M p L -/
theorem shr_1 {U L x D N : Nat} (hL : 1 ≤ L) (hx : 1 ≤ x) (h : U * D = N * (L * x)) : U / Nat.gcd U (L * x) * D = N * (L * x / Nat.gcd U (L * x)) ∧ Nat.Coprime (U / Nat.gcd U (L * x)) (L * x / Nat.gcd U (L * x)) ∧ 1 ≤ L * x / Nat.gcd U (L * x) := by
  have lx : 1 ≤ L * x := Nat.mul_pos hL hx
  have g0 : 0 < Nat.gcd U (L * x) := Nat.gcd_pos_of_pos_right _ lx
  have c1 := Nat.coprime_div_gcd_div_gcd g0
  have e1 : U / Nat.gcd U (L * x) * Nat.gcd U (L * x) = U := Nat.div_mul_cancel (Nat.gcd_dvd_left _ _)
  have e2 : L * x / Nat.gcd U (L * x) * Nat.gcd U (L * x) = L * x := Nat.div_mul_cancel (Nat.gcd_dvd_right _ _)
  refine ⟨?_, c1, Nat.div_pos (Nat.le_of_dvd lx (Nat.gcd_dvd_right _ _)) g0⟩
  generalize U / Nat.gcd U (L * x) = a at *
  generalize L * x / Nat.gcd U (L * x) = b at *
  generalize Nat.gcd U (L * x) = g at *
  rw [← e1, ← e2] at h
  have h2 : (a * D) * g = (N * b) * g := by
    rw [Nat.mul_right_comm, h, Nat.mul_assoc]
  exact Nat.eq_of_mul_eq_mul_right g0 h2
/-- a fraction in lowest terms equal to T / D -/
theorem low_d {s0 s1 T D : Nat} (hD : 1 ≤ D) (h : s0 * D = T * s1) (hc : Nat.Coprime s0 s1) : s1 ≤ D ∧ s0 ≤ T := by
  have d : s1 ∣ D := hc.symm.dvd_of_dvd_mul_left (by rw [h]; exact Nat.dvd_mul_left _ _)
  have l1 : s1 ≤ D := Nat.le_of_dvd hD d
  refine ⟨l1, ?_⟩
  have : s0 * D ≤ T * D := by rw [h]; exact Nat.mul_le_mul_left _ l1
  exact Nat.le_of_mul_le_mul_right this hD
/-- a share joins the sum -/
theorem sum_st {s0 s1 a b T N D : Nat} (h1 : 1 ≤ s1) (hb : 1 ≤ b) (h : s0 * D = T * s1) (g : a * D = N * b) : (s0 * b + a * s1) / Nat.gcd (s0 * b + a * s1) (s1 * b) * D = (T + N) * (s1 * b / Nat.gcd (s0 * b + a * s1) (s1 * b)) ∧ Nat.Coprime ((s0 * b + a * s1) / Nat.gcd (s0 * b + a * s1) (s1 * b)) (s1 * b / Nat.gcd (s0 * b + a * s1) (s1 * b)) ∧ 1 ≤ s1 * b / Nat.gcd (s0 * b + a * s1) (s1 * b) := by
  have l1 : 1 ≤ s1 * b := Nat.mul_pos h1 hb
  have key : (s0 * b + a * s1) * D = (T + N) * (s1 * b) := by
    rw [Nat.add_mul, Nat.mul_right_comm, h, Nat.mul_right_comm a, g, Nat.add_mul, Nat.mul_assoc T, Nat.mul_assoc N, Nat.mul_comm b s1]
  have q := shr_1 (U := s0 * b + a * s1) (L := s1) (x := b) (D := D) (N := T + N) h1 hb key
  exact q
/-! the heaviest q of n -/
def sm (f : Nat → Nat) : Nat → Nat
  | 0 => 0
  | n + 1 => sm f n + f n
theorem sm_le {f g : Nat → Nat} : ∀ n, (∀ i, i < n → f i ≤ g i) → sm f n ≤ sm g n := by
  intro n
  induction n with
  | zero => intro _; exact Nat.le_refl _
  | succ n ih =>
    intro h
    have := ih (fun i q => h i (by omega))
    have := h n (by omega)
    rw [sm, sm]; omega
theorem sm_eq {f g : Nat → Nat} (n : Nat) (h : ∀ i, i < n → f i = g i) : sm f n = sm g n := Nat.le_antisymm (sm_le n (fun i q => Nat.le_of_eq (h i q))) (sm_le n (fun i q => Nat.le_of_eq (h i q).symm))
theorem sm_add {f g : Nat → Nat} : ∀ n, sm (fun i => f i + g i) n = sm f n + sm g n := by
  intro n
  induction n with
  | zero => rfl
  | succ n ih => rw [sm, sm, sm, ih]; omega
theorem sm_mul {f : Nat → Nat} {k : Nat} : ∀ n, sm (fun i => k * f i) n = k * sm f n := by
  intro n
  induction n with
  | zero => rfl
  | succ n ih => rw [sm, sm, ih, Nat.mul_add]
theorem sm_ct {S : Nat → Bool} {k : Nat} : ∀ n, sm (fun i => if S i = true then k else 0) n = k * ct S n := by
  intro n
  induction n with
  | zero => rfl
  | succ n ih =>
    rw [sm, ct, ih, Nat.mul_add]
    split <;> omega
/-- a height between the chosen and the others -/
theorem thr {x : Nat → Nat} {S : Nat → Bool} {n : Nat} (h : ∀ i j, i < n → j < n → S i = true → S j = false → x j ≤ x i) : ∃ τ, (∀ j, j < n → S j = false → x j ≤ τ) ∧ ∀ i, i < n → S i = true → τ ≤ x i := by
  have gen : ∀ m, m ≤ n → ∃ τ, (∀ j, j < m → S j = false → x j ≤ τ) ∧ ∀ i, i < n → S i = true → τ ≤ x i := by
    intro m
    induction m with
    | zero => intro _; exact ⟨0, fun j hj => by omega, fun _ _ _ => Nat.zero_le _⟩
    | succ m ih =>
      intro hm
      obtain ⟨τ, h1, h2⟩ := ih (by omega)
      cases hs : S m with
      | true =>
        refine ⟨τ, fun j hj hj2 => ?_, h2⟩
        by_cases z : j = m
        · subst z; rw [hs] at hj2; exact absurd hj2 (by decide)
        · exact h1 j (by omega) hj2
      | false =>
        refine ⟨max τ (x m), fun j hj hj2 => ?_, fun i hi hi2 => ?_⟩
        · by_cases z : j = m
          · subst z; exact Nat.le_max_right _ _
          · exact Nat.le_trans (h1 j (by omega) hj2) (Nat.le_max_left _ _)
        · exact Nat.max_le.mpr ⟨h2 i hi hi2, h i m hi (by omega) hi2 hs⟩
  exact gen n (Nat.le_refl _)
/-- no mix of shares weighs more than the heaviest q -/
theorem kn {x N : Nat → Nat} {S : Nat → Bool} {n q D : Nat} (hN : ∀ i, i < n → N i ≤ D) (hs : sm N n ≤ q * D) (hq : ct S n = q) (h : ∀ i j, i < n → j < n → S i = true → S j = false → x j ≤ x i) : sm (fun i => N i * x i) n ≤ D * sm (fun i => if S i = true then x i else 0) n := by
  obtain ⟨τ, t1, t2⟩ := thr h
  have key : sm (fun i => N i * x i + (if S i = true then τ * D else 0)) n ≤ sm (fun i => D * (if S i = true then x i else 0) + τ * N i) n := by
    refine sm_le n (fun i hi => ?_)
    have hN := hN i hi
    cases hS : S i with
    | true =>
      have ht := t2 i hi hS
      rw [if_pos rfl, if_pos rfl]
      obtain ⟨e, he⟩ : ∃ e, D = N i + e := ⟨D - N i, by omega⟩
      obtain ⟨y, hy⟩ : ∃ y, x i = τ + y := ⟨x i - τ, by omega⟩
      rw [he, hy]
      have e1 : N i * (τ + y) + τ * (N i + e) = N i * τ + N i * y + (τ * N i + τ * e) := by rw [Nat.mul_add, Nat.mul_add]
      have e2 : (N i + e) * (τ + y) + τ * N i = N i * τ + N i * y + (e * τ + e * y) + τ * N i := by rw [Nat.add_mul, Nat.mul_add, Nat.mul_add]
      have e3 : τ * e = e * τ := Nat.mul_comm _ _
      omega
    | false =>
      have ht := t1 i hi hS
      rw [if_neg (by decide), if_neg (by decide), Nat.mul_zero, Nat.add_zero, Nat.zero_add, Nat.mul_comm]
      exact Nat.mul_le_mul_right _ ht
  rw [sm_add, sm_add, sm_ct, sm_mul, sm_mul, hq] at key
  have e : τ * sm N n ≤ τ * D * q := by
    rw [Nat.mul_assoc, Nat.mul_comm D q]; exact Nat.mul_le_mul_left _ hs
  omega
/-- the first greatest of the cells -/
theorem bsx_max (g : Nat → Int32) {n : Nat} : ∀ m i b, i + m = n → b < n → (∀ j, j < i → g j ≤ g b) → ∀ j, j < n → g j ≤ g (bsx g m i b) := by
  intro m
  induction m with
  | zero => intro i b hi hb h j hj; rw [bsx]; exact h j (by omega)
  | succ m ih =>
    intro i b hi hb h
    rw [bsx]
    by_cases z : g i ≤ g b
    · rw [if_pos z]
      exact ih (i + 1) b (by omega) hb (fun j hj => by
        by_cases y : j = i
        · rw [y]; exact z
        · exact h j (by omega))
    · rw [if_neg z]
      have lt : g b < g i := Int32.not_le.mp z
      exact ih (i + 1) i (by omega) (by omega) (fun j hj => by
        by_cases y : j = i
        · rw [y]; exact Int32.le_refl _
        · exact Int32.le_trans (h j (by omega)) (Int32.le_of_lt lt))
/-- what greed gathers is a heaviest q -/
theorem gty_s {x : Nat → Nat} {n : Nat} (hx : ∀ i, i < n → x i < 2000) (hn : n ≤ 5) : ∀ m (g : Nat → Int32) (S : Nat → Bool) T, ct S n + m ≤ n → (∀ j, j < n → g j = if S j = true then -1 else nI (x j)) → (∀ i j, i < n → j < n → S i = true → S j = false → x j ≤ x i) → T = sm (fun i => if S i = true then x i else 0) n → ∃ S' : Nat → Bool, ct S' n = ct S n + m ∧ (∀ i j, i < n → j < n → S' i = true → S' j = false → x j ≤ x i) ∧ gty g n m (lN T) = lN (sm (fun i => if S' i = true then x i else 0) n) := by
  intro m
  induction m with
  | zero =>
    intro g S T h1 h2 h3 h4
    exact ⟨S, rfl, h3, by rw [gty, h4]⟩
  | succ m ih =>
    intro g S T h1 h2 h3 h4
    have hb := bsx_lt g (n := n) n 0 0 (by omega) (by omega)
    have hmax := bsx_max g (n := n) n 0 0 (by omega) (by omega) (fun j hj => absurd hj (Nat.not_lt_zero j))
    obtain ⟨b, eb⟩ : ∃ b, b = bsx g n 0 0 := ⟨_, rfl⟩
    rw [← eb] at hb hmax
    -- some cell is free
    have free : ∃ j, j < n ∧ S j = false := by
      refine Decidable.byContradiction fun z => ?_
      have : ct S n = n := by
        have all : ∀ t, t < n → S t = true := fun t ht => by
          cases hs : S t with
          | true => rfl
          | false => exact absurd ⟨t, ht, hs⟩ z
        have gen : ∀ m, m ≤ n → ct S m = m := by
          intro m
          induction m with
          | zero => intro _; rfl
          | succ m ihm => intro hm; rw [ct, ihm (by omega), if_pos (all m (by omega))]
        exact gen n (Nat.le_refl _)
      omega
    obtain ⟨j0, hj0, hs0⟩ := free
    have sb : S b = false := by
      cases hs : S b with
      | false => rfl
      | true =>
        have := hmax j0 hj0
        rw [h2 j0 hj0, h2 b hb, hs, hs0, if_neg (by decide), if_pos rfl] at this
        have x0 := hx j0 hj0
        exact absurd this (Int32.not_le.mpr (Int32.lt_of_lt_of_le (show (-1 : Int32) < 0 by decide) (nI_pos' (by omega))))
    have gb : g b = nI (x b) := by rw [h2 b hb, sb, if_neg (by decide)]
    have xb := hx b hb
    obtain ⟨S', s1, s2, s3⟩ := ih (fun j => if j = b then -1 else g j) (fun j => decide (j = b) || S j) (T + x b) (by
      have e : ct (fun j => decide (j = b) || S j) n = ct S n + 1 := ct_flip n hb (fun t' _ q => by rw [decide_eq_false q, Bool.false_or]) (by rw [decide_eq_true rfl]; rfl) sb
      omega) (fun j hj => by
        try dsimp only
        by_cases y : j = b
        · rw [if_pos y, decide_eq_true y, Bool.true_or, if_pos rfl]
        · rw [if_neg y, decide_eq_false y, Bool.false_or]; exact h2 j hj) (fun i j hi hj hi2 hj2 => by
        have jb : j ≠ b := fun y => by rw [y, decide_eq_true rfl, Bool.true_or] at hj2; exact absurd hj2 (by decide)
        rw [decide_eq_false jb, Bool.false_or] at hj2
        by_cases y : i = b
        · subst y
          have := hmax j hj
          rw [h2 j hj, hj2, if_neg (by decide), gb, ii_le (by have := hx j hj; omega) (by omega)] at this
          exact this
        · rw [decide_eq_false y, Bool.false_or] at hi2
          exact h3 i j hi hj hi2 hj2) (by
        rw [h4]
        have e : sm (fun i => if (decide (i = b) || S i) = true then x i else 0) n = sm (fun i => (if S i = true then x i else 0) + (if i = b then x b else 0)) n := sm_eq n (fun i _ => by
          try dsimp only
          by_cases y : i = b
          · subst y
            rw [decide_eq_true rfl, Bool.true_or, if_pos rfl, sb, if_neg (by decide), if_pos rfl, Nat.zero_add]
          · rw [decide_eq_false y, Bool.false_or, if_neg y, Nat.add_zero])
        rw [e, sm_add]
        congr 1
        have gen : ∀ m, sm (fun i => if i = b then x b else 0) m = if b < m then x b else 0 := by
          intro m
          induction m with
          | zero => rfl
          | succ m ihm =>
            rw [sm, ihm]
            by_cases y1 : b < m
            · rw [if_pos y1, if_neg (by omega), if_pos (by omega), Nat.add_zero]
            · by_cases y2 : m = b
              · rw [if_neg y1, if_pos y2, if_pos (by omega), Nat.zero_add]
              · rw [if_neg y1, if_neg y2, if_neg (by omega)]
        rw [gen n, if_pos hb])
    have e : ct (fun j => decide (j = b) || S j) n = ct S n + 1 := ct_flip n hb (fun t' _ q => by rw [decide_eq_false q, Bool.false_or]) (by rw [decide_eq_true rfl]; rfl) sb
    refine ⟨S', by omega, s2, ?_⟩
    rw [gty, ← eb, gb, show Int32.toInt64 (nI (x b)) = lN (x b) from nI_l (by omega), lN_add]
    exact s3
/-- every choice is a number's bits -/
theorem bits_ex : ∀ n, n ≤ 5 → ∀ b0 b1 b2 b3 b4 : Bool, ∃ a, a < 2 ^ n ∧ ∀ i, i < n → a.testBit i = (if i = 0 then b0 else if i = 1 then b1 else if i = 2 then b2 else if i = 3 then b3 else b4) := by decide +kernel
end E1

/-! LAYER B: what hangs on a part of the array alone -/
/-- the texts are alike -/
def At (A' A : Nat → Int32) : Prop := ∀ k, 1680 ≤ k → k < 9680 → A' k = A k
/-- things and moves are alike, steps aside -/
def Am (A' A : Nat → Int32) : Prop := (∀ k, 240 ≤ k → k < 720 → (k - 240) % 12 ≠ 6 ∧ (k - 240) % 12 ≠ 8 → A' k = A k) ∧ ∀ k, 720 ≤ k → k < 1520 → A' k = A k
section CG
variable {w : jW} {A A' : Nat → Int32} {c : Nat → Nat} {K : Nat} {d : Int32}
theorem fnd_cg {P P' : Nat → Bool} : ∀ m k, (∀ i, k ≤ i → i < k + m → P' i = P i) → fnd P' m k = fnd P m k := by
  intro m
  induction m with
  | zero => intro k _; rfl
  | succ m ih =>
    intro k h
    rw [fnd, fnd, h k (by omega) (by omega), ih (k + 1) (fun i h1 h2 => h i (by omega) (by omega))]
theorem ncl_16 (H : RA w 3 A c K) {t : Nat} (ht : t < c 6) : ncl A t ≤ 16 := by
  obtain ⟨cs, ks, j1, j2, j3, j4, j5, j6⟩ := tx_un H
  obtain ⟨n, c0, k0, g⟩ := j6 t ht
  rw [ncl_e g]; exact g.2.1
theorem ncl_cg (h : At A' A) {t : Nat} (ht : t < 10) : ncl A' t = ncl A t := by
  rw [ncl, ncl, h _ (by omega) (by omega)]
theorem fcl_cg (h : At A' A) {t k : Nat} (ht : t < 10) (h16 : ncl A t ≤ 16) : fcl A' t k = fcl A t k := by
  rw [fcl, fcl, ncl_cg h ht]
  refine fnd_cg _ _ (fun i h1 h2 => ?_)
  rw [kcl, kcl, h _ (by omega) (by omega)]
theorem tf_cg (h : At A' A) {k : Nat} : ∀ n, n ≤ 10 → (∀ t, t < n → ncl A t ≤ 16) → tf A' k d n = tf A k d n := by
  intro n
  induction n with
  | zero => intro _ _; rfl
  | succ n ih =>
    intro hn h16
    have e := ih (by omega) (fun t ht => h16 t (by omega))
    rw [tf, tf, e, h _ (by omega) (by omega), fcl_cg h (by omega) (h16 n (by omega))]
    split
    · split
      · cases q : tf A k d n with
        | none => rfl
        | some r =>
          have := (tf_lt _ _ q).1
          rw [tfb, tfb, h _ (by omega) (by omega), h _ (by omega) (by omega)]
      · rfl
    · rfl
theorem nbo_cg (h : At A' A) {k col : Nat} {wo : Int32} (hc : col < 6) {o : Option Nat} (ho : ∀ t, o = some t → t < 10 ∧ ncl A t ≤ 16) : nbo A' k col wo o = nbo A k col wo o := by
  cases o with
  | none => rfl
  | some t =>
    obtain ⟨h1, h2⟩ := ho t rfl
    rw [nbo, nbo, fcl_cg h h1 h2]
    cases q : fcl A t k with
    | none => rfl
    | some i =>
      have := fnd_s _ _ _ q
      rw [nbc, nbc, h _ (by omega) (by omega)]
theorem lim_cg (h : At A' A) {t : Nat} (ht : t < 10) : ∀ n, n ≤ 16 → lim A' t d n = lim A t d n := by
  intro n
  induction n with
  | zero => intro _; rfl
  | succ n ih =>
    intro hn
    rw [lim, lim, ih (by omega), h _ (by omega) (by omega), h _ (by omega) (by omega), h _ (by omega) (by omega), h _ (by omega) (by omega)]
theorem limo_cg (h : At A' A) {o : Option Nat} (ho : ∀ t, o = some t → t < 10 ∧ ncl A t ≤ 16) : limo A' d o = limo A d o := by
  cases o with
  | none => rfl
  | some t =>
    obtain ⟨h1, h2⟩ := ho t rfl
    rw [limo, limo, ncl_cg h h1, lim_cg h h1 _ h2]
theorem tf_cgH (H : RA w 3 A c K) (h : At A' A) {k : Nat} : tf A' k d (c 6) = tf A k d (c 6) := tf_cg h (c 6) (l_6 H) (fun _ ht => ncl_16 H ht)
theorem tf_ok (H : RA w 3 A c K) {k : Nat} : ∀ t, tf A k d (c 6) = some t → t < 10 ∧ ncl A t ≤ 16 := fun t q => by
  have := (tf_lt _ _ q).1
  have := l_6 H
  exact ⟨by omega, ncl_16 H (by omega)⟩
theorem sys_cg (H : RA w 3 A c K) (h : At A' A) {c' : Nat → Nat} (h6 : c' 6 = c 6) {wh : Nat} : sys A' c' d wh = sys A c d wh := by
  unfold sys
  rw [h6, tf_cgH H h, tf_cgH H h, tf_cgH H h, tf_cgH H h, tf_cgH H h, limo_cg h (tf_ok H), nbo_cg h (by omega) (tf_ok H), nbo_cg h (by omega) (tf_ok H), nbo_cg h (by omega) (tf_ok H), nbo_cg h (by omega) (tf_ok H), nbo_cg h (by omega) (tf_ok H)]
theorem mwh_cg (h : Am A' A) {nm t : Nat} (ht : t < 40) (hm : nm ≤ 100) : mwh A' nm t d = mwh A nm t d := by
  have e4 : A' (240 + 12 * t + 4) = A (240 + 12 * t + 4) := h.1 _ (by omega) (by omega) (by omega)
  have e5 : A' (240 + 12 * t + 5) = A (240 + 12 * t + 5) := h.1 _ (by omega) (by omega) (by omega)
  have e7 : A' (240 + 12 * t + 7) = A (240 + 12 * t + 7) := h.1 _ (by omega) (by omega) (by omega)
  have em : ∀ m k at_, k + m ≤ 100 → msc A' t d m k at_ = msc A t d m k at_ := by
    intro m
    induction m with
    | zero => intro k at_ _; rfl
    | succ m ih =>
      intro k at_ hk
      rw [msc, msc, ih _ _ (by omega), h.2 (720 + 8 * k) (by omega) (by omega), h.2 (720 + 8 * k + 1) (by omega) (by omega), h.2 (720 + 8 * k + 3) (by omega) (by omega), h.2 (720 + 8 * k + 4) (by omega) (by omega)]
  rw [mwh, mwh, e4, e5, e7, em _ _ _ (by omega)]
theorem sh_f {t th k : Nat} {kl : Int32} : ∀ m i, sh A t k th kl m i = false := by
  intro m
  induction m with
  | zero => intro i; rfl
  | succ m ih => intro i; rw [sh, ih, hld, Bool.and_false]; rfl
theorem one_cg (H : RA w 3 A c K) (h : At A' A) (h2 : ∀ k, 240 ≤ k → k < 720 → A' k = A k) {th k : Nat} {kl : Int32} {wo : Bool} (hth : th < 40) (hk : k = 0 ∨ k = 4) : one A' k th kl wo (tf A' k d (c 6)) = one A k th kl wo (tf A k d (c 6)) := by
  rw [tf_cgH H h]
  cases q : tf A k d (c 6) with
  | none => rfl
  | some t => rw [one, one, sh_f, sh_f]
end CG


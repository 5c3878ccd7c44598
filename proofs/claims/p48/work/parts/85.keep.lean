/-! LAYER C of p48: what holds of the history is kept by the calls -/
section C2
variable {A A' : Nat → Int32} {c c' : Nat → Nat}
/-- the rules, the sorts, the classes of sites -/
def AgP (A' A : Nat → Int32) : Prop := (∀ k, 14 ≤ k → k < 36 → A' k = A k) ∧ ∀ i, i < 5 → A' (40 + 8 * i + 1) = A (40 + 8 * i + 1)
/-- a thing but for its end and its steps -/
def AgT (A' A : Nat → Int32) (t : Nat) : Prop := ∀ j, j < 6 → A' (240 + 12 * t + j) = A (240 + 12 * t + j)
def AgM (A' A : Nat → Int32) (k : Nat) : Prop := ∀ j, j < 5 → A' (720 + 8 * k + j) = A (720 + 8 * k + j)
theorem pl_cg {t : Nat} {e : Nat → Nat} (h : AgT A' A t) : ∀ n, (∀ k, k < n → AgM A' A k) → pl A' t e n = pl A t e n := by
  intro n
  induction n with
  | zero => intro _; rw [pl, pl, na, na, h 5 (by omega)]
  | succ n ih =>
    intro g
    have m := g n (by omega)
    rw [pl, pl, ih (fun k q => g k (by omega)), na, na, na, na, na, na, m 1 (by omega), m 3 (by omega), m 4 (by omega), show A' (720 + 8 * n) = A (720 + 8 * n) from m 0 (by omega)]
theorem fit_cg {t so : Nat} (p : AgP A' A) (h : AgT A' A t) (hs : so < 4) : fitF A' so t = fitF A so t := by
  unfold fitF
  rw [h 1 (by omega), h 2 (by omega), p.1 14 (by omega) (by omega), p.1 15 (by omega) (by omega), p.1 (20 + 4 * so) (by omega) (by omega), p.1 (20 + 4 * so + 1) (by omega) (by omega), p.1 (20 + 4 * so + 2) (by omega) (by omega), p.1 (20 + 4 * so + 3) (by omega) (by omega)]
theorem T_tr {t : Nat} (T : HTh A c) (ht : t < c 3) (p : AgP A' A) (h : AgT A' A t) (h0 : c 0 ≤ c' 0) : ∃ so mk st, A' (240 + 12 * t) = nI so ∧ A' (240 + 12 * t + 4) = nI mk ∧ A' (240 + 12 * t + 5) = nI st ∧ so < 3 ∧ mk ≤ c' 0 ∧ st < 5 ∧ (0 < mk → A' (40 + 8 * st + 1) = 1) ∧ fitF A' so t ≠ 0 ∧ ¬ A' (240 + 12 * t + 1) < A' (20 + 4 * so) := by
  obtain ⟨so, mk, st, a1, a2, a3, a4, a5, a6, a7, a8, a9⟩ := T t ht
  refine ⟨so, mk, st, (h 0 (by omega)).trans a1, (h 4 (by omega)).trans a2, (h 5 (by omega)).trans a3, a4, by omega, a6, fun z => (p.2 st a6).trans (a7 z), ?_, ?_⟩
  · rw [fit_cg p h (by omega)]; exact a8
  · rw [h 1 (by omega), p.1 (20 + 4 * so) (by omega) (by omega)]; exact a9
theorem M_tr {k : Nat} (M : HMv A c) (hk : k < c 4) (hm : ∀ j, j < c 4 → AgM A' A j) (ht : ∀ t, t < c 3 → AgT A' A t) (h0 : c 0 ≤ c' 0) (h3 : c 3 ≤ c' 3) (hg : ∀ t, t < c 3 → A (720 + 8 * k) = nI t → (A (240 + 12 * t + 7) = -1 ∨ na A (720 + 8 * k + 4) ≤ na A (240 + 12 * t + 7)) → (A' (240 + 12 * t + 7) = -1 ∨ na A (720 + 8 * k + 4) ≤ na A' (240 + 12 * t + 7))) : ∃ t d x y e, A' (720 + 8 * k) = nI t ∧ A' (720 + 8 * k + 1) = nI d ∧ A' (720 + 8 * k + 2) = nI x ∧ A' (720 + 8 * k + 3) = nI y ∧ A' (720 + 8 * k + 4) = nI e ∧ t < c' 3 ∧ d ≤ c' 0 ∧ d < e ∧ e ≤ 1999 ∧ x < 5 ∧ y < 5 ∧ na A' (240 + 12 * t + 4) ≤ d ∧ (0 < d → na A' (240 + 12 * t + 4) < d) ∧ x = pl A' t (kd d) k ∧ (∀ j, j < k → A' (720 + 8 * j) = nI t → na A' (720 + 8 * j + 4) ≤ d) ∧ (A' (240 + 12 * t + 7) = -1 ∨ e ≤ na A' (240 + 12 * t + 7)) := by
  obtain ⟨t, d, x, y, e, a1, a2, a3, a4, a5, a6, a7, a8, a9, a10, a11, a12, a13, a14, a15, a16⟩ := M k hk
  have m := hm k hk
  have T := ht t a6
  have e4 : na A' (240 + 12 * t + 4) = na A (240 + 12 * t + 4) := by rw [na, na, T 4 (by omega)]
  have ne : na A (720 + 8 * k + 4) = e := na_e a5 (by omega)
  refine ⟨t, d, x, y, e, (m 0 (by omega)).trans a1, (m 1 (by omega)).trans a2, (m 2 (by omega)).trans a3, (m 3 (by omega)).trans a4, (m 4 (by omega)).trans a5, by omega, by omega, a8, a9, a10, a11, by rw [e4]; exact a12, by rw [e4]; exact a13, ?_, fun j hj hjt => ?_, ?_⟩
  · rw [pl_cg T k (fun j hj => hm j (by omega))]; exact a14
  · have mj := hm j (by omega)
    rw [show A' (720 + 8 * j) = A (720 + 8 * j) from mj 0 (by omega)] at hjt
    rw [na, mj 4 (by omega)]; exact a15 j hj hjt
  · have := hg t a6 a1 (by rw [ne]; exact a16)
    rw [ne] at this; exact this
theorem G_tr {t : Nat} (G : HGn A c) (ht : t < c 3) (hm : ∀ j, j < c 4 → AgM A' A j) (hT : AgT A' A t) (p : AgP A' A) (h7 : A' (240 + 12 * t + 7) = A (240 + 12 * t + 7)) (h0 : c 0 ≤ c' 0) (h4 : c' 4 = c 4 ∨ (c' 4 = c 4 + 1 ∧ ¬ A' (720 + 8 * c 4) = nI t)) : A' (240 + 12 * t + 7) = -1 ∨ ∃ g p, A' (240 + 12 * t + 7) = nI g ∧ g ≤ c' 0 ∧ na A' (240 + 12 * t + 4) ≤ g ∧ p = pl A' t (kd g) (c' 4) ∧ p < 5 ∧ A' (40 + 8 * p + 1) = 3 := by
  rw [h7]
  refine (G t ht).imp id (fun ⟨g, q, g1, g2, g3, g4, g5, g6⟩ => ⟨g, q, g1, by omega, by rw [na, hT 4 (by omega)]; exact g3, ?_, g5, (p.2 q g5).trans g6⟩)
  rcases h4 with h4 | ⟨h4, h5⟩
  · rw [h4, pl_cg hT _ hm]; exact g4
  · rw [h4, pl, if_neg (fun z => h5 z.1), pl_cg hT _ hm]; exact g4
def VRow (A : Nat → Int32) (c : Nat → Nat) (k : Nat) : Prop := ∃ i d, A (11280 + 12 * k + 1) = nI i ∧ A (11280 + 12 * k + 2) = nI d ∧ i < 5 ∧ 1 ≤ d ∧ d ≤ c 0 ∧ (∀ s, s < 4 → A (11280 + 12 * k + 3 + s) = nI (cn A c i s (d - 1))) ∧ A (11280 + 12 * k + 7) = 0 ∧ (A (11280 + 12 * k + 8) = 1 → ∃ l p, l < c 5 ∧ A (11280 + 12 * k + 9) = nI l ∧ A (1520 + 4 * l + 1) = nI p ∧ p ≤ c 0 ∧ noB A c i p (d - 1))
def PRow (A : Nat → Int32) (c : Nat → Nat) (k : Nat) : Prop := ∃ i d n, A (12480 + 4 * k) = nI i ∧ A (12480 + 4 * k + 1) = nI d ∧ A (12480 + 4 * k + 2) = nI n ∧ i < 5 ∧ 1 ≤ d ∧ d ≤ c 0 ∧ n ≤ 40 ∧ ∀ s, s < 4 → ¬ A (20 + 4 * s) < A 16 → cn A c i s (d - 1) ≤ n
/-- days behind the clock stay as they were -/
def Past (A' A : Nat → Int32) (c' c : Nat → Nat) : Prop := (∀ i s d, d < c 0 → i < 5 → s < 4 → cn A' c' i s d = cn A c i s d) ∧ ∀ i p d, d < c 0 → i < 5 → noB A c i p d → noB A' c' i p d
theorem V_tr {k : Nat} (V : HVi A c) (hk : k < c 8) (q : Past A' A c' c) (h0 : c 0 ≤ c' 0) (h5 : c 5 ≤ c' 5) (hr : ∀ j, j < 10 → A' (11280 + 12 * k + j) = A (11280 + 12 * k + j)) (hl : ∀ l, l < c 5 → A' (1520 + 4 * l + 1) = A (1520 + 4 * l + 1)) : VRow A' c' k := by
  obtain ⟨i, d, v1, v2, v3, v4, v5, v6, v7, v8⟩ := V k hk
  refine ⟨i, d, (hr 1 (by omega)).trans v1, (hr 2 (by omega)).trans v2, v3, v4, by omega, fun s hs => ?_, (hr 7 (by omega)).trans v7, fun z => ?_⟩
  · rw [q.1 i s (d - 1) (by omega) v3 hs, Nat.add_assoc, hr (3 + s) (by omega), ← Nat.add_assoc]; exact v6 s hs
  · rw [hr 8 (by omega)] at z
    obtain ⟨l, p, w1, w2, w3, w4, w5⟩ := v8 z
    exact ⟨l, p, by omega, (hr 9 (by omega)).trans w2, (hl l w1).trans w3, by omega, q.2 i p (d - 1) (by omega) v3 w5⟩
theorem P_tr {k : Nat} (P : HPc A c) (hk : k < c 9) (q : Past A' A c' c) (h0 : c 0 ≤ c' 0) (hr : ∀ j, j < 3 → A' (12480 + 4 * k + j) = A (12480 + 4 * k + j)) (p : AgP A' A) : PRow A' c' k := by
  obtain ⟨i, d, n, v1, v2, v3, v4, v5, v6, v7, v8⟩ := P k hk
  refine ⟨i, d, n, (hr 0 (by omega)).trans v1, (hr 1 (by omega)).trans v2, (hr 2 (by omega)).trans v3, v4, v5, by omega, v7, fun s hs z => ?_⟩
  rw [p.1 (20 + 4 * s) (by omega) (by omega), p.1 16 (by omega) (by omega)] at z
  rw [q.1 i s (d - 1) (by omega) v4 hs]; exact v8 s hs z
/-- tables that stay -/
theorem past_eq (hm : ∀ j, j < c 4 → AgM A' A j) (hT : ∀ t, t < c 3 → AgT A' A t) (h7 : ∀ t, t < c 3 → A' (240 + 12 * t + 7) = A (240 + 12 * t + 7)) (h3 : c' 3 = c 3) (h4 : c' 4 = c 4) (B : Bd c) (B' : Bd c') (T : HTh A c) (M : HMv A c) (G : HGn A c) (T' : HTh A' c') (M' : HMv A' c') (G' : HGn A' c') : (∀ i s d, d ≤ 1999 → i < 5 → cn A' c' i s d = cn A c i s d) ∧ ∀ i p d, noB A c i p d → noB A' c' i p d := by
  constructor
  · intro i s d hd hi
    unfold cn
    rw [h3]
    refine ct_eq _ (fun t ht => dec_eq ?_)
    rw [at_pl B' T' M' G' (by omega) hd hi, at_pl B T M G ht hd hi, h7 t ht, show A' (240 + 12 * t) = A (240 + 12 * t) from hT t ht 0 (by omega), na, na, na, na, hT t ht 4 (by omega), h7 t ht, h4, pl_cg (hT t ht) _ hm]
  · intro i p d h k hk
    rw [h4] at hk
    have m := hm k hk
    rw [na, na, m 1 (by omega), m 2 (by omega), m 3 (by omega), m 4 (by omega)]
    exact h k hk
/-- calls that leave things and moves -/
theorem HI_still (h : HI A c) (B' : Bd c') (p : AgP A' A) (hm : ∀ j, j < c 4 → AgM A' A j) (hT : ∀ t, t < c 3 → AgT A' A t) (h7 : ∀ t, t < c 3 → A' (240 + 12 * t + 7) = A (240 + 12 * t + 7)) (h0 : c 0 ≤ c' 0) (h3 : c' 3 = c 3) (h4 : c' 4 = c 4) (h5 : c 5 ≤ c' 5) (hl : ∀ l, l < c 5 → A' (1520 + 4 * l + 1) = A (1520 + 4 * l + 1)) (hv : ∀ k, k < c 8 → ∀ j, j < 10 → A' (11280 + 12 * k + j) = A (11280 + 12 * k + j)) (hp : ∀ k, k < c 9 → ∀ j, j < 3 → A' (12480 + 4 * k + j) = A (12480 + 4 * k + j)) (h8 : ∀ k, k < c' 8 → c 8 ≤ k → (∀ i s d, d ≤ 1999 → i < 5 → cn A' c' i s d = cn A c i s d) → (∀ i p d, noB A c i p d → noB A' c' i p d) → VRow A' c' k) (h9 : ∀ k, k < c' 9 → c 9 ≤ k → (∀ i s d, d ≤ 1999 → i < 5 → cn A' c' i s d = cn A c i s d) → PRow A' c' k) : HI A' c' := by
  obtain ⟨B, T, M, G, V, P⟩ := h
  have T' : HTh A' c' := fun t ht => T_tr T (by omega) p (hT t (by omega)) h0
  have M' : HMv A' c' := fun k hk => M_tr M (by omega) hm hT h0 (by omega) (fun t ht _ z => by rw [h7 t ht, na, na, h7 t ht]; exact z)
  have G' : HGn A' c' := fun t ht => G_tr G (by omega) hm (hT t (by omega)) p (h7 t (by omega)) h0 (Or.inl h4)
  obtain ⟨e1, e2⟩ := past_eq hm hT h7 h3 h4 B B' T M G T' M' G'
  have b0 := B.1
  have q : Past A' A c' c := ⟨fun i s d hd hi _ => e1 i s d (by omega) hi, fun i p d _ _ z => e2 i p d z⟩
  refine ⟨B', T', M', G', fun k hk => ?_, fun k hk => ?_⟩
  · by_cases z : k < c 8
    · exact V_tr V z q h0 h5 (hv k z) hl
    · exact h8 k hk (by omega) e1 e2
  · by_cases z : k < c 9
    · exact P_tr P z q h0 (hp k z) p
    · exact h9 k hk (by omega) e1
theorem Bd_up {i n : Nat} (B : Bd c) (h : i ≠ 0 ∧ i ≠ 3 ∧ i ≠ 4 ∧ i ≠ 5 ∧ i ≠ 8 ∧ i ≠ 9) : Bd (cup c i n) := by
  obtain ⟨b0, b3, b4, b5, b8, b9⟩ := B
  unfold Bd cup
  rw [if_neg (by omega), if_neg (by omega), if_neg (by omega), if_neg (by omega), if_neg (by omega), if_neg (by omega)]
  exact ⟨b0, b3, b4, b5, b8, b9⟩
/-- the clock goes on -/
theorem HI_days (h : HI A c) {d : Nat} (hd : c 0 + d ≤ 1999) (hA : ∀ k, k < 21000 → ¬ (k = 0) → A' k = A k) : HI A' (cup c 0 (c 0 + d)) := by
  obtain ⟨b0, b3, b4, b5, b8, b9⟩ := h.1
  exact HI_still h ⟨hd, b3, b4, b5, b8, b9⟩ ⟨fun k _ _ => hA k (by omega) (by omega), fun i _ => hA _ (by omega) (by omega)⟩ (fun j hj i _ => hA _ (by omega) (by omega)) (fun t ht j _ => hA _ (by omega) (by omega)) (fun t ht => hA _ (by omega) (by omega)) (show c 0 ≤ c 0 + d by omega) rfl rfl (Nat.le_refl _) (fun l hl => hA _ (by omega) (by omega)) (fun k hk j hj => hA _ (by omega) (by omega)) (fun k hk j hj => hA _ (by omega) (by omega)) (fun k hk hk2 => absurd (show k < c 8 from hk) (by omega)) (fun k hk hk2 => absurd (show k < c 9 from hk) (by omega))
/-- a seal is put -/
theorem HI_seal (h : HI A c) (h5 : c 5 < 40) (hA : ∀ k, k < 21000 → ¬ (k = 5 ∨ k = 1520 + 4 * c 5 ∨ k = 1520 + 4 * c 5 + 1) → A' k = A k) : HI A' (cup c 5 (c 5 + 1)) := by
  obtain ⟨b0, b3, b4, b5, b8, b9⟩ := h.1
  exact HI_still h ⟨b0, b3, b4, h5, b8, b9⟩ ⟨fun k _ _ => hA k (by omega) (by omega), fun i _ => hA _ (by omega) (by omega)⟩ (fun j hj i _ => hA _ (by omega) (by omega)) (fun t ht j _ => hA _ (by omega) (by omega)) (fun t ht => hA _ (by omega) (by omega)) (Nat.le_refl _) rfl rfl (Nat.le_succ _) (fun l hl => hA _ (by omega) (by omega)) (fun k hk j hj => hA _ (by omega) (by omega)) (fun k hk j hj => hA _ (by omega) (by omega)) (fun k hk hk2 => absurd (show k < c 8 from hk) (by omega)) (fun k hk hk2 => absurd (show k < c 9 from hk) (by omega))
theorem cn_up {i s d j n : Nat} (h3 : j ≠ 3) (h4 : j ≠ 4) : cn A (cup c j n) i s d = cn A c i s d := by
  unfold cn cup
  rw [if_neg (fun z => h4 z.symm), if_neg (fun z => h3 z.symm)]
/-- a picture is taken -/
theorem HI_pic (h : HI A c) {i n : Nat} (h9 : c 9 < 100) (hi : i < 5) (h0 : 1 ≤ c 0) (hn : n ≤ 40) (hc : ∀ s, s < 4 → ¬ A (20 + 4 * s) < A 16 → cn A c i s (c 0 - 1) ≤ n) (g0 : A' (12480 + 4 * c 9) = nI i) (g1 : A' (12480 + 4 * c 9 + 1) = nI (c 0)) (g2 : A' (12480 + 4 * c 9 + 2) = nI n) (hA : ∀ k, k < 21000 → ¬ (k = 9 ∨ k = 12480 + 4 * c 9 ∨ k = 12480 + 4 * c 9 + 1 ∨ k = 12480 + 4 * c 9 + 2) → A' k = A k) : HI A' (cup c 9 (c 9 + 1)) := by
  obtain ⟨b0, b3, b4, b5, b8, b9⟩ := h.1
  refine HI_still h ⟨b0, b3, b4, b5, b8, h9⟩ ⟨fun k _ _ => hA k (by omega) (by omega), fun i _ => hA _ (by omega) (by omega)⟩ (fun j hj i _ => hA _ (by omega) (by omega)) (fun t ht j _ => hA _ (by omega) (by omega)) (fun t ht => hA _ (by omega) (by omega)) (Nat.le_refl _) rfl rfl (Nat.le_refl _) (fun l hl => hA _ (by omega) (by omega)) (fun k hk j hj => hA _ (by omega) (by omega)) (fun k hk j hj => hA _ (by omega) (by omega)) (fun k hk hk2 => absurd (show k < c 8 from hk) (by omega)) (fun k hk hk2 e => ?_)
  have ek : k = c 9 := by
    have : k < c 9 + 1 := hk
    omega
  subst ek
  refine ⟨i, c 0, n, g0, g1, g2, hi, h0, Nat.le_refl _, hn, fun s hs z => ?_⟩
  rw [hA _ (by omega) (by omega), hA 16 (by omega) (by omega)] at z
  rw [e i s (c 0 - 1) (by omega) hi]
  exact hc s hs z
/-- the seal's state that a visit tells -/
theorem brk_nb {x p d : Nat} (hp : p < 2 ^ 31) (hd : d < 2 ^ 31) (B : Bd c) (M : HMv A c) : ∀ m k, k + m ≤ c 4 → brk A (nI x) p (nI d) m k = false → ∀ j, k ≤ j → j < k + m → ¬ (A (720 + 8 * j + 2) = nI x ∧ p < na A (720 + 8 * j + 1) ∧ na A (720 + 8 * j + 1) ≤ d) ∧ ¬ (A (720 + 8 * j + 3) = nI x ∧ p < na A (720 + 8 * j + 4) ∧ na A (720 + 8 * j + 4) ≤ d) := by
  obtain ⟨b0, b3, b4, -⟩ := B
  intro m
  induction m with
  | zero => intro k _ _ j h1 h2; omega
  | succ m ih =>
    intro k hk hb j h1 h2
    rw [brk, Bool.or_eq_false_iff, Bool.or_eq_false_iff] at hb
    by_cases z : j = k
    · subst z
      obtain ⟨t', d', x', y', e', c1, c2, c3, c4, c5, c6, c7, c8, c9, -⟩ := M j (by omega)
      rw [na_e c2 (by omega), na_e c5 (by omega)]
      constructor
      · rintro ⟨q1, q2, q3⟩
        have := hb.1
        rw [decide_eq_true q1, c2, decide_eq_true (show ¬ nI d' ≤ nI p by rw [ii_le (by omega) hp]; omega), decide_eq_true (show nI d' ≤ nI d from nI_le q3 hd)] at this
        exact absurd this (by decide)
      · rintro ⟨q1, q2, q3⟩
        have := hb.2.1
        rw [decide_eq_true q1, c5, decide_eq_true (show ¬ nI e' ≤ nI p by rw [ii_le (by omega) hp]; omega), decide_eq_true (show nI e' ≤ nI d from nI_le q3 hd)] at this
        exact absurd this (by decide)
    · exact ih (k + 1) (by omega) hb.2.2 j (by omega) (by omega)
theorem HI_visit (h : HI A c) {i : Nat} (h8 : c 8 < 100) (hi : i < 5) (h0 : 1 ≤ c 0) (g1 : A' (11280 + 12 * c 8 + 1) = nI i) (g2 : A' (11280 + 12 * c 8 + 2) = nI (c 0)) (g3 : ∀ s, s < 4 → A' (11280 + 12 * c 8 + 3 + s) = nI (cn A c i s (c 0 - 1))) (g7 : A' (11280 + 12 * c 8 + 7) = 0) (g8 : A' (11280 + 12 * c 8 + 8) = 1 → ∃ l p, l < c 5 ∧ A' (11280 + 12 * c 8 + 9) = nI l ∧ A (1520 + 4 * l + 1) = nI p ∧ p ≤ c 0 ∧ noB A c i p (c 0 - 1)) (hA : ∀ k, k < 21000 → ¬ (k = 8 ∨ 11280 + 12 * c 8 ≤ k ∧ k < 11280 + 12 * c 8 + 10 ∨ k = 11 ∨ k = 13080 + 8 * c 11 ∨ k = 13080 + 8 * c 11 + 1 ∨ k = 13080 + 8 * c 11 + 2 ∨ k = 13080 + 8 * c 11 + 3 ∨ k = 13080 + 8 * c 11 + 4) → A' k = A k) : HI A' (cup (cup c 8 (c 8 + 1)) 11 (c 11 + 1)) := by
  obtain ⟨b0, b3, b4, b5, b8, b9⟩ := h.1
  refine HI_still h (Bd_up ⟨b0, b3, b4, b5, h8, b9⟩ (by omega)) ⟨fun k _ _ => hA k (by omega) (by omega), fun i _ => hA _ (by omega) (by omega)⟩ (fun j hj i _ => hA _ (by omega) (by omega)) (fun t ht j _ => hA _ (by omega) (by omega)) (fun t ht => hA _ (by omega) (by omega)) (Nat.le_refl _) rfl rfl (Nat.le_refl _) (fun l hl => hA _ (by omega) (by omega)) (fun k hk j hj => hA _ (by omega) (by omega)) (fun k hk j hj => hA _ (by omega) (by omega)) (fun k hk hk2 e e2 => ?_) (fun k hk hk2 => absurd (show k < c 9 from hk) (by omega))
  have ek : k = c 8 := by
    have : k < c 8 + 1 := hk
    omega
  subst ek
  refine ⟨i, c 0, g1, g2, hi, h0, Nat.le_refl _, fun s hs => ?_, g7, fun z => ?_⟩
  · rw [e i s (c 0 - 1) (by omega) hi]; exact g3 s hs
  · obtain ⟨l, p, w1, w2, w3, w4, w5⟩ := g8 z
    exact ⟨l, p, w1, w2, (hA _ (by omega) (by omega)).trans w3, w4, e2 i p _ w5⟩
/-- a thing is made -/
theorem HI_make (h : HI A c) {so st : Nat} (hn : c 3 < 40) (hso : so < 3) (hst : st < 5) (hcl : 0 < c 0 → A (40 + 8 * st + 1) = 1) (g0 : A' (240 + 12 * c 3) = nI so) (g4 : A' (240 + 12 * c 3 + 4) = nI (c 0)) (g5 : A' (240 + 12 * c 3 + 5) = nI st) (g7 : A' (240 + 12 * c 3 + 7) = -1) (hf : fitF A' so (c 3) ≠ 0) (hl : ¬ A' (240 + 12 * c 3 + 1) < A (20 + 4 * so)) (hA : ∀ k, k < 21000 → ¬ (k = 3 ∨ 240 + 12 * c 3 ≤ k ∧ k < 240 + 12 * c 3 + 9 ∨ k = 11 ∨ k = 13080 + 8 * c 11 ∨ k = 13080 + 8 * c 11 + 1 ∨ k = 13080 + 8 * c 11 + 2 ∨ k = 13080 + 8 * c 11 + 3 ∨ k = 13080 + 8 * c 11 + 4) → A' k = A k) : HI A' (cup (cup c 3 (c 3 + 1)) 11 (c 11 + 1)) := by
  obtain ⟨B, T, M, G, V, P⟩ := h
  have B0 := B
  obtain ⟨b0, b3, b4, b5, b8, b9⟩ := B0
  have e0 : (cup (cup c 3 (c 3 + 1)) 11 (c 11 + 1)) 0 = c 0 := rfl
  have e3 : (cup (cup c 3 (c 3 + 1)) 11 (c 11 + 1)) 3 = c 3 + 1 := rfl
  have e4 : (cup (cup c 3 (c 3 + 1)) 11 (c 11 + 1)) 4 = c 4 := rfl
  have e5 : (cup (cup c 3 (c 3 + 1)) 11 (c 11 + 1)) 5 = c 5 := rfl
  have e8 : (cup (cup c 3 (c 3 + 1)) 11 (c 11 + 1)) 8 = c 8 := rfl
  have e9 : (cup (cup c 3 (c 3 + 1)) 11 (c 11 + 1)) 9 = c 9 := rfl
  generalize cup (cup c 3 (c 3 + 1)) 11 (c 11 + 1) = c' at *
  have p : AgP A' A := ⟨fun k _ _ => hA k (by omega) (by omega), fun i _ => hA _ (by omega) (by omega)⟩
  have hm : ∀ j, j < c 4 → AgM A' A j := fun j hj i _ => hA _ (by omega) (by omega)
  have hT : ∀ t, t < c 3 → AgT A' A t := fun t ht j _ => hA _ (by omega) (by omega)
  have h7 : ∀ t, t < c 3 → A' (240 + 12 * t + 7) = A (240 + 12 * t + 7) := fun t ht => hA _ (by omega) (by omega)
  have B' : Bd c' := ⟨by omega, by omega, by omega, by omega, by omega, by omega⟩
  have T' : HTh A' c' := fun t ht => by
    by_cases z : t < c 3
    · exact T_tr T z p (hT t z) (by omega)
    · obtain rfl : t = c 3 := by omega
      exact ⟨so, c 0, st, g0, g4, g5, hso, by omega, hst, fun z => (p.2 st hst).trans (hcl z), hf, by rw [p.1 (20 + 4 * so) (by omega) (by omega)]; exact hl⟩
  have M' : HMv A' c' := fun k hk => M_tr M (by omega) hm hT (by omega) (by omega) (fun t ht _ z => by rw [h7 t ht, na, na, h7 t ht]; exact z)
  have G' : HGn A' c' := fun t ht => by
    by_cases z : t < c 3
    · exact G_tr G z hm (hT t z) p (h7 t z) (by omega) (Or.inl e4)
    · obtain rfl : t = c 3 := by omega
      exact Or.inl g7
  have q : Past A' A c' c := by
    refine ⟨fun i s d hd hi hs => ?_, fun i p d _ _ g k hk => ?_⟩
    · unfold cn
      rw [e3, ct, if_neg (fun y => ?_), Nat.add_zero]
      · refine ct_eq _ (fun t ht => dec_eq ?_)
        rw [at_pl B' T' M' G' (by omega) (by omega) hi, at_pl B T M G ht (by omega) hi, h7 t ht, show A' (240 + 12 * t) = A (240 + 12 * t) from hT t ht 0 (by omega), na, na, na, na, hT t ht 4 (by omega), h7 t ht, e4, pl_cg (hT t ht) _ hm]
      · have y2 := (of_decide_eq_true y).2
        have := ((at_pl B' T' M' G' (t := c 3) (by omega) (by omega) hi).mp y2).1
        rw [na_e g4 (by omega)] at this
        omega
    · rw [e4] at hk
      have m := hm k hk
      rw [na, na, m 1 (by omega), m 2 (by omega), m 3 (by omega), m 4 (by omega)]
      exact g k hk
  exact ⟨B', T', M', G', fun k hk => V_tr V (by omega) q (by omega) (by omega) (fun j hj => hA _ (by omega) (by omega)) (fun l hl => hA _ (by omega) (by omega)), fun k hk => P_tr P (by omega) q (by omega) (fun j hj => hA _ (by omega) (by omega)) p⟩
/-- a thing moves -/
theorem HI_move (h : HI A c) {t x y e : Nat} (hn : c 4 < 100) (ht : t < c 3) (hx : x < 5) (hy : y < 5) (he : c 0 < e) (he2 : e ≤ 1999) (hw : mwh A (c 4) t (nI (c 0)) = nI x) (hmk : 0 < c 0 → ¬ A (240 + 12 * t + 4) = nI (c 0)) (g0 : A' (720 + 8 * c 4) = nI t) (g1 : A' (720 + 8 * c 4 + 1) = nI (c 0)) (g2 : A' (720 + 8 * c 4 + 2) = nI x) (g3 : A' (720 + 8 * c 4 + 3) = nI y) (g4 : A' (720 + 8 * c 4 + 4) = nI e) (hA : ∀ k, k < 21000 → ¬ (k = 4 ∨ k = 720 + 8 * c 4 ∨ k = 720 + 8 * c 4 + 1 ∨ k = 720 + 8 * c 4 + 2 ∨ k = 720 + 8 * c 4 + 3 ∨ k = 720 + 8 * c 4 + 4 ∨ k = 11 ∨ k = 13080 + 8 * c 11 ∨ k = 13080 + 8 * c 11 + 1 ∨ k = 13080 + 8 * c 11 + 2 ∨ k = 13080 + 8 * c 11 + 3 ∨ k = 13080 + 8 * c 11 + 4) → A' k = A k) : HI A' (cup (cup c 4 (c 4 + 1)) 11 (c 11 + 1)) := by
  obtain ⟨B, T, M, G, V, P⟩ := h
  have B0 := B
  obtain ⟨b0, b3, b4, b5, b8, b9⟩ := B0
  obtain ⟨w1, w2, w3⟩ := (at_pl B T M G ht b0 hx).mp hw
  obtain ⟨so, mk, st, a1, a2, a3, a4, a5, a6, a7, a8, a9⟩ := T t ht
  have nm := na_e a2 (by omega)
  have gone : A (240 + 12 * t + 7) = -1 := by
    rcases G t ht with z | ⟨g, p, z1, z2, -⟩
    · exact z
    · exact absurd ⟨by rw [z1]; exact nI_ne_m1 (by omega), by rw [na_e z1 (by omega)]; exact z2⟩ w2
  have ar := pl_ar B M (t := t) (d := c 0) (fun k hk => by
    obtain ⟨t', d', x', y', e', c1, c2, c3, c4, c5, c6, c7, -⟩ := M k hk
    rw [na_e c2 (by omega)]; exact c7) (c 4) (Nat.le_refl _) (by rw [w3]; omega)
  have e0 : (cup (cup c 4 (c 4 + 1)) 11 (c 11 + 1)) 0 = c 0 := rfl
  have e3 : (cup (cup c 4 (c 4 + 1)) 11 (c 11 + 1)) 3 = c 3 := rfl
  have e4 : (cup (cup c 4 (c 4 + 1)) 11 (c 11 + 1)) 4 = c 4 + 1 := rfl
  have e5 : (cup (cup c 4 (c 4 + 1)) 11 (c 11 + 1)) 5 = c 5 := rfl
  have e8 : (cup (cup c 4 (c 4 + 1)) 11 (c 11 + 1)) 8 = c 8 := rfl
  have e9 : (cup (cup c 4 (c 4 + 1)) 11 (c 11 + 1)) 9 = c 9 := rfl
  generalize cup (cup c 4 (c 4 + 1)) 11 (c 11 + 1) = c' at *
  have p : AgP A' A := ⟨fun k _ _ => hA k (by omega) (by omega), fun i _ => hA _ (by omega) (by omega)⟩
  have hm : ∀ j, j < c 4 → AgM A' A j := fun j hj i _ => hA _ (by omega) (by omega)
  have hT : ∀ t, t < c 3 → AgT A' A t := fun t ht j _ => hA _ (by omega) (by omega)
  have h7 : ∀ t, t < c 3 → A' (240 + 12 * t + 7) = A (240 + 12 * t + 7) := fun t ht => hA _ (by omega) (by omega)
  have B' : Bd c' := ⟨by omega, by omega, by omega, by omega, by omega, by omega⟩
  have T' : HTh A' c' := fun t ht => T_tr T (by omega) p (hT t (by omega)) (by omega)
  have M' : HMv A' c' := fun k hk => by
    by_cases z : k < c 4
    · exact M_tr M z hm hT (by omega) (by omega) (fun t ht _ z => by rw [h7 t ht, na, na, h7 t ht]; exact z)
    · obtain rfl : k = c 4 := by omega
      have e44 : na A' (240 + 12 * t + 4) = mk := by rw [na, hT t ht 4 (by omega)]; exact nm
      refine ⟨t, c 0, x, y, e, g0, g1, g2, g3, g4, by omega, by omega, he, he2, hx, hy, by omega, fun u => ?_, ?_, fun j hj hjt => ?_, Or.inl ((h7 t ht).trans gone)⟩
      · rw [e44]
        have : mk ≠ c 0 := fun v => hmk u (by rw [a2, v])
        omega
      · rw [pl_cg (hT t ht) _ hm]; exact w3.symm
      · have mj := hm j hj
        rw [show A' (720 + 8 * j) = A (720 + 8 * j) from mj 0 (by omega)] at hjt
        rw [na, mj 4 (by omega)]; exact ar j hj hjt
  have G' : HGn A' c' := fun t' ht' => by
    by_cases z : t' = t
    · subst z
      exact Or.inl ((h7 t' ht).trans gone)
    · exact G_tr G (by omega) hm (hT t' (by omega)) p (h7 t' (by omega)) (by omega) (Or.inr ⟨e4, fun y => z (by
        rw [g0] at y
        exact ((nI_eq (by omega) (by omega)).mp y).symm)⟩)
  have q : Past A' A c' c := by
    refine ⟨fun i s d hd hi hs => ?_, fun i p d hd _ g k hk => ?_⟩
    · unfold cn
      rw [e3]
      refine ct_eq _ (fun t' ht' => dec_eq ?_)
      rw [at_pl B' T' M' G' (by omega) (by omega) hi, at_pl B T M G ht' (by omega) hi, h7 t' ht', show A' (240 + 12 * t') = A (240 + 12 * t') from hT t' ht' 0 (by omega), na, na, na, na, hT t' ht' 4 (by omega), h7 t' ht', e4, pl, if_neg (fun z => ?_), pl_cg (hT t' ht') _ hm]
      have := z.2
      rw [na_e g1 (by omega), kd] at this
      omega
    · by_cases z : k < c 4
      · have m := hm k z
        rw [na, na, m 1 (by omega), m 2 (by omega), m 3 (by omega), m 4 (by omega)]
        exact g k z
      · obtain rfl : k = c 4 := by omega
        rw [na_e g1 (by omega), na_e g4 (by omega)]
        exact ⟨fun u => by omega, fun u => by omega⟩
  exact ⟨B', T', M', G', fun k hk => V_tr V (by omega) q (by omega) (by omega) (fun j hj => hA _ (by omega) (by omega)) (fun l hl => hA _ (by omega) (by omega)), fun k hk => P_tr P (by omega) q (by omega) (fun j hj => hA _ (by omega) (by omega)) p⟩
/-- a step; the last one ends the thing -/
theorem HI_step (h : HI A c) {t x : Nat} (ht : t < c 3) (hx : x < 5) (hw : mwh A (c 4) t (nI (c 0)) = nI x) (hcl : A (40 + 8 * x + 1) = 3) (g7 : A' (240 + 12 * t + 7) = A (240 + 12 * t + 7) ∨ A' (240 + 12 * t + 7) = nI (c 0)) (hA : ∀ k, k < 21000 → ¬ (k = 240 + 12 * t + 6 ∨ k = 240 + 12 * t + 7 ∨ k = 240 + 12 * t + 8 ∨ k = 11 ∨ k = 13080 + 8 * c 11 ∨ k = 13080 + 8 * c 11 + 1 ∨ k = 13080 + 8 * c 11 + 2 ∨ k = 13080 + 8 * c 11 + 3 ∨ k = 13080 + 8 * c 11 + 4) → A' k = A k) : HI A' (cup c 11 (c 11 + 1)) := by
  obtain ⟨B, T, M, G, V, P⟩ := h
  have B0 := B
  obtain ⟨b0, b3, b4, b5, b8, b9⟩ := B0
  obtain ⟨w1, w2, w3⟩ := (at_pl B T M G ht b0 hx).mp hw
  have gone : A (240 + 12 * t + 7) = -1 := by
    rcases G t ht with z | ⟨g, p, z1, z2, -⟩
    · exact z
    · exact absurd ⟨by rw [z1]; exact nI_ne_m1 (by omega), by rw [na_e z1 (by omega)]; exact z2⟩ w2
  have ar := pl_ar B M (t := t) (d := c 0) (fun k hk => by
    obtain ⟨t', d', x', y', e', c1, c2, c3, c4, c5, c6, c7, -⟩ := M k hk
    rw [na_e c2 (by omega)]; exact c7) (c 4) (Nat.le_refl _) (by rw [w3]; omega)
  have e0 : (cup c 11 (c 11 + 1)) 0 = c 0 := rfl
  have e3 : (cup c 11 (c 11 + 1)) 3 = c 3 := rfl
  have e4 : (cup c 11 (c 11 + 1)) 4 = c 4 := rfl
  have e5 : (cup c 11 (c 11 + 1)) 5 = c 5 := rfl
  have e8 : (cup c 11 (c 11 + 1)) 8 = c 8 := rfl
  have e9 : (cup c 11 (c 11 + 1)) 9 = c 9 := rfl
  generalize cup c 11 (c 11 + 1) = c' at *
  have p : AgP A' A := ⟨fun k _ _ => hA k (by omega) (by omega), fun i _ => hA _ (by omega) (by omega)⟩
  have hm : ∀ j, j < c 4 → AgM A' A j := fun j hj i _ => hA _ (by omega) (by omega)
  have hT : ∀ t, t < c 3 → AgT A' A t := fun t ht j _ => hA _ (by omega) (by omega)
  have h7 : ∀ t', t' < c 3 → t' ≠ t → A' (240 + 12 * t' + 7) = A (240 + 12 * t' + 7) := fun t' ht z => hA _ (by omega) (by omega)
  have B' : Bd c' := ⟨by omega, by omega, by omega, by omega, by omega, by omega⟩
  have T' : HTh A' c' := fun t ht => T_tr T (by omega) p (hT t (by omega)) (by omega)
  have M' : HMv A' c' := fun k hk => M_tr M (by omega) hm hT (by omega) (by omega) (fun t' ht' hkt z => by
    by_cases y : t' = t
    · subst y
      rcases g7 with g7 | g7
      · rw [g7, na, na, g7]; exact z
      · rw [g7]
        refine Or.inr ?_
        rw [na_e g7 (by omega)]
        exact ar k (by omega) hkt
    · rw [h7 t' ht' y, na, na, h7 t' ht' y]; exact z)
  have G' : HGn A' c' := fun t' ht' => by
    by_cases z : t' = t
    · subst z
      rcases g7 with g7 | g7
      · exact Or.inl (g7.trans gone)
      · refine Or.inr ⟨c 0, x, g7, by omega, ?_, ?_, hx, (p.2 x hx).trans hcl⟩
        · rw [na, hT t' ht 4 (by omega)]; exact w1
        · rw [e4, pl_cg (hT t' ht) _ hm]; exact w3.symm
    · exact G_tr G (by omega) hm (hT t' (by omega)) p (h7 t' (by omega) z) (by omega) (Or.inl e4)
  have q : Past A' A c' c := by
    refine ⟨fun i s d hd hi hs => ?_, fun i p d _ _ g k hk => ?_⟩
    · unfold cn
      rw [e3]
      refine ct_eq _ (fun t' ht' => dec_eq ?_)
      rw [at_pl B' T' M' G' (by omega) (by omega) hi, at_pl B T M G ht' (by omega) hi, show A' (240 + 12 * t') = A (240 + 12 * t') from hT t' ht' 0 (by omega), e4, pl_cg (hT t' ht') _ hm, show na A' (240 + 12 * t' + 4) = na A (240 + 12 * t' + 4) by rw [na, na, hT t' ht' 4 (by omega)]]
      by_cases y : t' = t
      · subst y
        rcases g7 with g7 | g7
        · rw [g7, show na A' (240 + 12 * t' + 7) = na A (240 + 12 * t' + 7) by rw [na, na, g7]]
        · rw [gone, na_e g7 (by omega)]
          exact ⟨fun z => ⟨z.1, z.2.1, fun u => u.1 rfl, z.2.2.2⟩, fun z => ⟨z.1, z.2.1, fun u => by omega, z.2.2.2⟩⟩
      · rw [h7 t' ht' y, show na A' (240 + 12 * t' + 7) = na A (240 + 12 * t' + 7) by rw [na, na, h7 t' ht' y]]
    · rw [e4] at hk
      have m := hm k hk
      rw [na, na, m 1 (by omega), m 2 (by omega), m 3 (by omega), m 4 (by omega)]
      exact g k hk
  exact ⟨B', T', M', G', fun k hk => V_tr V (by omega) q (by omega) (by omega) (fun j hj => hA _ (by omega) (by omega)) (fun l hl => hA _ (by omega) (by omega)), fun k hk => P_tr P (by omega) q (by omega) (fun j hj => hA _ (by omega) (by omega)) p⟩
/-- a telling changes nothing of it -/
theorem HI_tell (h : HI A c) (h7 : c 7 < 200) (hA : ∀ k, k < 21000 → ¬ (k = 7 ∨ k = 9680 + 8 * c 7 ∨ k = 9680 + 8 * c 7 + 1 ∨ k = 9680 + 8 * c 7 + 2 ∨ k = 9680 + 8 * c 7 + 3 ∨ k = 11 ∨ k = 13080 + 8 * c 11 ∨ k = 13080 + 8 * c 11 + 1 ∨ k = 13080 + 8 * c 11 + 2 ∨ k = 13080 + 8 * c 11 + 3 ∨ k = 13080 + 8 * c 11 + 4) → A' k = A k) : HI A' (cup (cup c 7 (c 7 + 1)) 11 (c 11 + 1)) := by
  obtain ⟨b0, b3, b4, b5, b8, b9⟩ := h.1
  exact HI_still h (Bd_up (Bd_up h.1 (by omega)) (by omega)) ⟨fun k _ _ => hA k (by omega) (by omega), fun i _ => hA _ (by omega) (by omega)⟩ (fun j hj i _ => hA _ (by omega) (by omega)) (fun t ht j _ => hA _ (by omega) (by omega)) (fun t ht => hA _ (by omega) (by omega)) (Nat.le_refl _) rfl rfl (Nat.le_refl _) (fun l hl => hA _ (by omega) (by omega)) (fun k hk j hj => hA _ (by omega) (by omega)) (fun k hk j hj => hA _ (by omega) (by omega)) (fun k hk hk2 => absurd (show k < c 8 from hk) (by omega)) (fun k hk hk2 => absurd (show k < c 9 from hk) (by omega))
end C2

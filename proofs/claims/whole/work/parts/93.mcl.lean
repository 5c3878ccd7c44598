/-! LAYER B: clauses read by the reference -/
section MK
variable {w v w0 : jW} {P : Nat → Int32} {n t i R j p : Nat} {L : List (Nat × Nat × Nat)} {ρ : List (Nat × Nat)}
/-- only the reader's cells differ: of the array the clauses from the j-th on, the codes from the p-th on -/
def Xk (t j p : Nat) (v w : jW) : Prop := (∀ b, b ≠ 93 → b ≠ 94 → b ≠ 98 → v.1 b = w.1 b) ∧ (∀ q, q < 7 ∨ q = 12 → v.1 93 q = w.1 93 q) ∧ ∀ q, q < 1680 + 800 * t + 2 + 8 * j ∨ 1680 + 800 * t + 140 ≤ q ∧ q < 1680 + 800 * t + 140 + 2 * p ∨ 1680 + 800 * t + 800 ≤ q → v.1 94 q = w.1 94 q
theorem Xk_r : Xk t j p w w := ⟨fun _ _ _ _ => rfl, fun _ _ => rfl, fun _ _ => rfl⟩
theorem Xk_t {x : jW} (h : Xk t j p x v) (g : Xk t j p v w) : Xk t j p x w := ⟨fun b q1 q2 q3 => (h.1 b q1 q2 q3).trans (g.1 b q1 q2 q3), fun j q => (h.2.1 j q).trans (g.2.1 j q), fun q z => (h.2.2 q z).trans (g.2.2 q z)⟩
theorem Xk_x (h : Xt v w) : Xk t j p v w := ⟨fun b q _ _ => h.1 b q, fun j q => h.2 j (by omega) (by omega) (by omega) (by omega), fun q _ => by rw [h.1 94 (by omega)]⟩
theorem Xk_m (h : Xm (1680 + 800 * t + 140) p v w) (hj : j ≤ 16) : Xk t j p v w := ⟨h.1, fun j q => h.2.1 j (by omega), fun q z => h.2.2 q (by omega)⟩
theorem Xk_j {q : Nat} {x : Int32} (hj : j ≤ 16) (h : 1680 + 800 * t + 2 + 8 * j ≤ q) (h2 : q < 1680 + 800 * t + 140) : Xk t j p (jup w.1 94 q x, w.2) w := ⟨fun b _ q2 _ => by dsimp only; rw [jup_fn q2], fun a _ => by dsimp only; rw [jup_ne (by omega)], fun a z => by dsimp only; rw [jup_k (by omega)]⟩
theorem Xk_13 {x : Int32} : Xk t j p (jup w.1 93 13 x, w.2) w := ⟨fun b q1 _ _ => by dsimp only; rw [jup_fn q1], fun a _ => by dsimp only; rw [jup_k (by omega)], fun a z => by dsimp only; rw [jup_ne (by omega)]⟩
/-- a clause on its way, in the reference -/
def Sm (P : Nat → Int32) (n t R : Nat) (w w0 : jW) (i j p : Nat) (ρ : List (Nat × Nat)) (L : List (Nat × Nat × Nat)) : Prop := Ato w P n i ∧ i ≤ R ∧ t < 10 ∧ j < 16 ∧ w.1 93 12 = nI (1680 + 800 * t) ∧ w.1 93 13 = nI j ∧ w.1 93 14 = nI (p + tln L) ∧ w.1 93 15 = nI 0 ∧ (∀ e ∈ ρ, w.1 94 (1680 + 800 * t + 2 + 8 * j + e.1) = nI e.2) ∧ (∀ e ∈ ρ, e.1 < 8) ∧ tkm (w.1 94) (1680 + 800 * t + 140 + 2 * p) L ∧ Xk t j p w w0
theorem Sm_x (h : Xt v w) (S : Sm P n t R w w0 i j p ρ L) {i' : Nat} (a : Ato v P n i') (hi : i' ≤ R) : Sm P n t R v w0 i' j p ρ L := by
  obtain ⟨s1, s2, s3, s4, s5, s6, s7, s8, s9, s10, s11, s12⟩ := S
  have e94 : v.1 94 = w.1 94 := h.1 94 (by omega)
  exact ⟨a, hi, s3, s4, by rw [h.2 12 (by omega) (by omega) (by omega) (by omega)]; exact s5, by rw [h.2 13 (by omega) (by omega) (by omega) (by omega)]; exact s6, by rw [h.2 14 (by omega) (by omega) (by omega) (by omega)]; exact s7, by rw [h.2 15 (by omega) (by omega) (by omega) (by omega)]; exact s8, by rw [e94]; exact s9, s10, by rw [e94]; exact s11, Xk_t (Xk_x h) s12⟩
/-- a cell of the clause's row put -/
theorem Sm_j {col x : Nat} (hc : col < 8) (hn : ∀ e ∈ ρ, e.1 ≠ col) (S : Sm P n t R w w0 i j p ρ L) : Sm P n t R (jup w.1 94 (1680 + 800 * t + 2 + 8 * j + col) (nI x), w.2) w0 i j p ((col, x) :: ρ) L := by
  obtain ⟨s1, s2, s3, s4, s5, s6, s7, s8, s9, s10, s11, s12⟩ := S
  refine ⟨At_fr s1 (by dsimp only; rw [jup_fn (by omega)]) (fun q _ => by dsimp only; rw [jup_ne (by omega)]) rfl, s2, s3, s4, by dsimp only; rw [jup_ne (by omega)]; exact s5, by dsimp only; rw [jup_ne (by omega)]; exact s6, by dsimp only; rw [jup_ne (by omega)]; exact s7, by dsimp only; rw [jup_ne (by omega)]; exact s8, fun e he => ?_, fun e he => ?_, tkm_tr _ _ (fun q q1 q2 => by dsimp only; rw [jup_k (by omega)]) s11, Xk_t (Xk_j (by omega) (by omega) (by omega)) s12⟩
  · rcases List.mem_cons.mp he with rfl | he
    · dsimp only; rw [jup_eq]
    · dsimp only; rw [jup_k (by have := hn e he; omega)]; exact s9 e he
  · rcases List.mem_cons.mp he with rfl | he
    · exact hc
    · exact s10 e he
def Km (z : Option (Int32 × jW)) (w0 : jW) (P : Nat → Int32) (n t j p s : Nat) (r : Pcl) : Prop := (r.1 = 0 → ∃ v, z = some (0, v) ∧ Ato v P n r.2.1 ∧ v.1 93 12 = nI (1680 + 800 * t) ∧ v.1 93 13 = nI (j + 1) ∧ v.1 93 14 = nI (p + tln r.2.2.2.2.2) ∧ v.1 93 15 = nI 0 ∧ v.1 94 (1680 + 800 * t + 2 + 8 * j) = nI (s + 1) ∧ (s = 0 ∨ s = 4 → v.1 94 (1680 + 800 * t + 2 + 8 * j + 4) = nI p ∧ v.1 94 (1680 + 800 * t + 2 + 8 * j + 5) = nI (p + tln r.2.2.2.2.2) ∧ tkm (v.1 94) (1680 + 800 * t + 140 + 2 * p) r.2.2.2.2.2) ∧ (s ≠ 0 → s ≠ 4 → v.1 94 (1680 + 800 * t + 2 + 8 * j + 1) = nI r.2.2.1) ∧ (s = 1 ∨ s = 5 → v.1 94 (1680 + 800 * t + 2 + 8 * j + 2) = nI r.2.2.2.1) ∧ (s = 1 → v.1 94 (1680 + 800 * t + 2 + 8 * j + 3) = nI r.2.2.2.2.1) ∧ Xk t j p v w0) ∧ (r.1 ≠ 0 → ∃ v, z = some (nI r.1, v) ∧ Ato v P n r.2.1 ∧ Xk t j p v w0)
theorem Km_f {z : Option (Int32 × jW)} {s e : Nat} (S : Sm P n t R w w0 i j p ρ L) (he : e ≠ 0) (hz : z = some (nI e, w)) : Km z w0 P n t j p s (e, i, 0, 0, 0, []) := ⟨fun q => absurd q he, fun _ => ⟨w, hz, S.1, S.2.2.2.2.2.2.2.2.2.2.2⟩⟩
theorem m_tk3 {lo hi col : Nat} {x : Int32} (hk : kk P n R = 28) (S : Sm P n t R w w0 i j p ρ L) (hx : x = nI (1680 + 800 * t + 2 + 8 * j + col)) (hc : col < 8) (hn : ∀ e ∈ ρ, e.1 ≠ col) (hlo : lo ≤ 2000) (hhi : hi ≤ 2000) : (∃ v, kk P n i = 27 ∧ lo ≤ uu P n i ∧ uu P n i ≤ hi ∧ f_Model_take (nI lo) (nI hi) x w = some (0, v) ∧ Sm P n t R v w0 (i + 1) j p ((col, uu P n i) :: ρ) L) ∨ ∃ e, (e = 1 ∨ e = 2) ∧ f_Model_take (nI lo) (nI hi) x w = some (nI e, w) ∧ ∀ F, pT (kk P n) (uu P n) lo hi i F = (e, i, 0, 0, 0, []) := by
  have S' := S
  obtain ⟨s1, s2, s3, s4, s5, s6, s7, s8, s9, s10, s11, s12⟩ := S'
  rw [f_Model_take, ifp (At_9 s1 (a := 27) (by omega) (by omega) (x := 1) (by decide))]
  by_cases g : kk P n i = 27
  rotate_left
  · rw [if_neg g]
    exact Or.inr ⟨1, Or.inl rfl, rfl, fun F => by unfold pT; rw [if_neg g]⟩
  obtain ⟨a, a1, a2, a3⟩ := At_nu s1 g
  rw [if_pos g, a1, m_isIn, ob]
  dsimp only
  have eb : (¬ nI a < nI lo ∧ nI a ≤ nI hi) ↔ (lo ≤ uu P n i ∧ uu P n i ≤ hi) := by
    rw [nI_ltI (by omega) (by omega), nI_leI (by omega) (by omega), a3]
    omega
  by_cases y : lo ≤ uu P n i ∧ uu P n i ≤ hi
  rotate_left
  · rw [b2_n (fun z => y (eb.mp z)), if_pos rfl]
    exact Or.inr ⟨2, Or.inr rfl, rfl, fun F => by unfold pT; rw [if_pos g, if_neg y]⟩
  have ea : a = uu P n i := by omega
  have S1 := Sm_j (x := uu P n i) hc hn S
  obtain ⟨v, d1, d2, d3⟩ := m_nx S1.1
  refine Or.inl ⟨v, g, y.1, y.2, ?_, Sm_x d2 S1 d3 (kR_s hk s2 g (by omega))⟩
  rw [b2_p (eb.mpr y), if_neg one_ne, hx, jin_nI (by omega) (by omega), jal_c, jal_n, Bool.and_true, if_pos rfl, nI_clamp (by omega), jlw_e, a1, ea, d1, ob]
theorem m_nd2 {m : Nat} {W : List Nat} {x : Int64} (hk : kk P n R = 28) (S : Sm P n t R w w0 i j p ρ L) (hm : m < 18) (hW : wls[m]? = some W) (hx : x = lN (pkN 0 W)) : (∃ v, kk P n i = m ∧ f_Model_need x w = some (0, v) ∧ Sm P n t R v w0 (i + 1) j p ρ L) ∨ (kk P n i ≠ m ∧ f_Model_need x w = some (1, w)) := by
  have e := m_isW S.1.2.2 hm hW hx
  rw [m_kk S.1] at e
  rw [f_Model_need, e, ob]
  dsimp only
  by_cases g : kk P n i = m
  · obtain ⟨v, d1, d2, d3⟩ := m_nx S.1
    rw [b2_p g, if_neg one_ne, d1, ob]
    exact Or.inl ⟨v, g, rfl, Sm_x d2 S d3 (kR_s hk S.2.1 g (by omega))⟩
  · rw [b2_n g, if_pos rfl]
    exact Or.inr ⟨g, rfl⟩
theorem m_end {s a b d : Nat} (hk : kk P n R = 28) (S : Sm P n t R w w0 i j p ρ L) (h0 : (0, s + 1) ∈ ρ) (hcn : s = 0 ∨ s = 4 → (4, p) ∈ ρ ∧ (5, p + tln L) ∈ ρ) (h1 : s ≠ 0 → s ≠ 4 → (1, a) ∈ ρ) (h2 : s = 1 ∨ s = 5 → (2, b) ∈ ρ) (h3 : s = 1 → (3, d) ∈ ρ) : Km (f_Model_clause_j151 0 w) w0 P n t j p s (pX (kk P n) 26 i (0, i + 1, a, b, d, L)) := by
  have S' := S
  obtain ⟨s1, s2, s3, s4, s5, s6, s7, s8, s9, s10, s11, s12⟩ := S'
  unfold pX
  rw [f_Model_clause_j151, if_pos rfl, ifp (At_9 s1 (a := 26) (by omega) (by omega) (x := 59) (by decide))]
  by_cases g : kk P n i = 26
  rotate_left
  · rw [if_neg g, if_neg g]
    exact Km_f S (e := 1) (by omega) rfl
  have A1 : Ato (jup w.1 93 13 (nI (j + 1)), w.2) P n i := At_fr s1 (by dsimp only; rw [jup_fn (by omega)]) (fun q hq => by dsimp only; rw [jup_k (by omega)]) rfl
  obtain ⟨v, d1, d2, d3⟩ := m_nx A1
  have e94 : v.1 94 = w.1 94 := (d2.1 94 (by omega)).trans (by dsimp only; rw [jup_fn (by omega)])
  have e93 : ∀ q, q = 12 ∨ q = 14 ∨ q = 15 → v.1 93 q = w.1 93 q := fun q hq => by rw [d2.2 q (by omega) (by omega) (by omega) (by omega)]; dsimp only; rw [jup_k (by omega)]
  have e13 : v.1 93 13 = nI (j + 1) := by rw [d2.2 13 (by omega) (by omega) (by omega) (by omega)]; dsimp only; rw [jup_eq]
  rw [if_pos g, if_pos g, jlw_e, s6, ip_1, d1, ob]
  refine ⟨fun _ => ⟨v, rfl, d3, (e93 12 (by omega)).trans s5, e13, (e93 14 (by omega)).trans s7, (e93 15 (by omega)).trans s8, ?_, fun hs => ⟨?_, ?_, ?_⟩, fun z1 z2 => ?_, fun z => ?_, fun z => ?_, Xk_t (Xk_x d2) (Xk_t Xk_13 s12)⟩, fun z => absurd rfl z⟩
  · rw [e94]; exact s9 _ h0
  · rw [e94]; exact s9 _ (hcn hs).1
  · rw [e94]; exact s9 _ (hcn hs).2
  · rw [e94]; exact s11
  · rw [e94]; exact s9 _ (h1 z1 z2)
  · rw [e94]; exact s9 _ (h2 z)
  · rw [e94]; exact s9 _ (h3 z)
theorem m_151 {e : Nat} (he : e = 1 ∨ e = 2 ∨ e = 3 ∨ e = 4) (w : jW) : f_Model_clause_j151 (nI e) w = some (nI e, w) := by
  rw [f_Model_clause_j151, if_neg (show ¬ nI e = 0 from nI_ne' (b := 0) (by omega) (by omega) (by omega))]
theorem m_1511 (w : jW) : f_Model_clause_j151 1 w = some (1, w) := m_151 (e := 1) (by omega) w
theorem m_t2 {x2 c : Int32} {w : jW} : f_Model_clause_j100 2 x2 c w = f_Model_clause_j151 c w := by
  rw [f_Model_clause_j100, if_neg (by decide), if_neg (by decide), f_Model_clause_j123, if_neg (by decide), f_Model_clause_j139, if_neg (by decide)]
theorem m_t3 {s x2 c : Int32} {w : jW} (h3 : s ≠ 2) (h4 : s ≠ 3) (h5 : s ≠ 4) (h6 : s ≠ 6) (h7 : s ≠ 7) : f_Model_clause_j89 s x2 c w = f_Model_clause_j151 c w := by
  rw [f_Model_clause_j89, if_neg h3, f_Model_clause_j100, if_neg h4, if_neg h7, f_Model_clause_j123, if_neg h5, f_Model_clause_j139, if_neg h6]
theorem m_lb {x e : Int32} (he : e ≠ 0) (w : jW) : f_Model_limit_j31 x e w = some (e, w) := by
  rw [f_Model_limit_j31, if_neg he, f_Model_limit_j47, if_neg he, f_Model_limit_j72, if_neg he]
theorem m_lb2 {x e : Int32} (he : e ≠ 0) (w : jW) : f_Model_limit_j47 x e w = some (e, w) := by
  rw [f_Model_limit_j47, if_neg he, f_Model_limit_j72, if_neg he]
theorem m_sb {x e : Int32} (he : e ≠ 0) (w : jW) : f_Model_stepping_j31 x e w = some (e, w) := by
  rw [f_Model_stepping_j31, if_neg he]
theorem pT_ok {k u : Nat → Nat} {lo hi i : Nat} {F : Nat → Pcl} (h1 : k i = 27) (h2 : lo ≤ u i) (h3 : u i ≤ hi) : pT k u lo hi i F = F (u i) := by
  unfold pT; rw [if_pos h1, if_pos ⟨h2, h3⟩]
theorem pX_ok {k : Nat → Nat} {a i : Nat} {F : Pcl} (h : k i = a) : pX k a i F = F := if_pos h
theorem pX_no {k : Nat → Nat} {a i : Nat} {F : Pcl} (h : k i ≠ a) : pX k a i F = (1, i, 0, 0, 0, []) := if_neg h
theorem n12 {e : Nat} (he : e = 1 ∨ e = 2) : ¬ nI e = 0 := nI_ne' (b := 0) (by omega) (by omega) (by omega)
theorem m_clause (hk : kk P n R = 28) (hR : R ≤ 300) (h0 : Ato w P n i) (hi : i ≤ R) (ht : t < 10) (h12 : w.1 93 12 = nI (1680 + 800 * t)) (h13 : w.1 93 13 = nI j) (hj : j ≤ 16) (h14 : w.1 93 14 = nI p) (h15 : w.1 93 15 = nI 0) (hp : p ≤ i) : Km (f_Model_clause w) w P n t j p (kk P n i) (pcl (kk P n) (uu P n) j i) := by
  have bad : ∀ e, e ≠ 0 → Km (some (nI e, w)) w P n t j p (kk P n i) (e, i, 0, 0, 0, []) := fun e he => ⟨fun q => absurd q he, fun _ => ⟨w, rfl, h0, Xk_r⟩⟩
  have hs := m_sort h0.2.2
  rw [m_kk h0] at hs
  unfold pcl
  by_cases g0 : 7 ≤ kk P n i
  · rw [if_neg (show ¬ kk P n i < 7 by omega)] at hs
    rw [f_Model_clause, hs, ob]
    dsimp only
    rw [if_pos g0, if_pos rfl]
    exact bad 1 (by omega)
  rw [if_pos (show kk P n i < 7 by omega)] at hs
  rw [f_Model_clause, hs, ob]
  dsimp only
  rw [if_neg g0, if_neg (show ¬ nI (kk P n i + 1) = 0 from nI_ne' (b := 0) (by omega) (by omega) (by omega)), h13]
  by_cases g1 : 16 ≤ j
  · rw [if_pos g1, if_pos (by rw [show j = 16 by omega]; rfl)]
    exact bad 4 (by omega)
  have l1 : i + 1 ≤ R := kR_s hk hi rfl (by omega)
  have ex : nI (1680 + 800 * t) + 2 + 8 * nI j = nI (1680 + 800 * t + 2 + 8 * j) := by rw [show (8 : Int32) * nI j = nI (8 * j) from nI_mul 8 j, show nI (1680 + 800 * t) + 2 = nI (1680 + 800 * t + 2) from nI_add _ 2, nI_add]
  have S0 : Sm P n t R w w i j p [] [] := ⟨h0, hi, ht, by omega, h12, h13, h14, h15, fun e he => absurd he (by simp), fun e he => absurd he (by simp), trivial, Xk_r⟩
  have S1 := Sm_j (col := 0) (x := kk P n i + 1) (by omega) (fun e he => absurd he (by simp)) S0
  obtain ⟨w4, d1, d2, d3⟩ := m_nx S1.1
  have S4 := Sm_x d2 S1 d3 l1
  rw [if_neg g1, if_neg (show ¬ nI j = 16 from nI_ne' (b := 16) (by omega) (by omega) (by omega)), h12, ex, jin_nI (by omega) (by omega), jal_c, jal_n, Bool.and_true, if_pos rfl, nI_clamp (by omega), jlw_e, show f_Model_nextToken (jup w.1 94 (1680 + 800 * t + 2 + 8 * j) (nI (kk P n i + 1)), w.2) = some w4 from d1, ob]
  have ad : ∀ c : Nat, c < 8 → ∀ x : Int32, x = nI c → nI (1680 + 800 * t + 2 + 8 * j) + x = nI (1680 + 800 * t + 2 + 8 * j + c) := fun c _ x hx => by rw [hx, nI_add]
  have j60 : kk P n i = 0 ∨ kk P n i = 4 → Km (f_Model_clause_j60 (nI (kk P n i + 1)) (nI (1680 + 800 * t + 2 + 8 * j)) w4) w P n t j p (kk P n i) (if ((prd (kk P n) (uu P n) 10).2 0 (i + 1)).1 ≠ 0 then (((prd (kk P n) (uu P n) 10).2 0 (i + 1)).1, ((prd (kk P n) (uu P n) 10).2 0 (i + 1)).2.1, 0, 0, 0, []) else pX (kk P n) 26 ((prd (kk P n) (uu P n) 10).2 0 (i + 1)).2.1 (0, ((prd (kk P n) (uu P n) 10).2 0 (i + 1)).2.1 + 1, 0, 0, 0, ((prd (kk P n) (uu P n) 10).2 0 (i + 1)).2.2)) := fun hc => by
    have S5 := Sm_j (col := 4) (x := p) (by omega) (fun e he => by have := List.mem_singleton.mp he; rw [this]; show 0 ≠ 4; omega) S4
    obtain ⟨w5, hw5⟩ : ∃ w5 : jW, w5 = (jup w4.1 94 (1680 + 800 * t + 2 + 8 * j + 4) (nI p), w4.2) := ⟨_, rfl⟩
    rw [← hw5] at S5
    have S5' := S5
    obtain ⟨s1, s2, s3, s4, s5, s6, s7, s8, s9, s10, s11, s12⟩ := S5'
    obtain ⟨q1, q2⟩ := m_either hk hR s1 s3 s5 s7 s8 s2 (by show p + 0 ≤ i + 1; omega)
    obtain ⟨p1, p2, p3, p4⟩ := (prd_g (u := uu P n) hk 10).2 0 (i + 1) l1
    have e7 : w4.1 93 14 = nI p := by have := S4.2.2.2.2.2.2.1; exact this
    rw [f_Model_clause_j60, ad 4 (by omega) 4 rfl, jin_nI (by omega) (by omega), jal_c, jal_n, Bool.and_true, if_pos rfl, nI_clamp (by omega), jlw_e, e7, ← hw5]
    have nn : ∀ a : Nat, a < 100 → kk P n i + 1 ≠ a → nI (kk P n i + 1) ≠ nI a := fun a ha z => nI_ne' (by omega) (by omega) z
    have tl : ∀ c v, f_Model_clause_j89 (nI (kk P n i + 1)) (nI (1680 + 800 * t + 2 + 8 * j)) c v = f_Model_clause_j151 c v := fun c v => m_t3 (nn 2 (by omega) (by omega)) (nn 3 (by omega) (by omega)) (nn 4 (by omega) (by omega)) (nn 6 (by omega) (by omega)) (nn 7 (by omega) (by omega))
    by_cases g5 : ((prd (kk P n) (uu P n) 10).2 0 (i + 1)).1 ≠ 0
    · rw [if_pos g5]
      obtain ⟨v, b1, b2, b3⟩ := q2 g5
      rw [b1, ob, ad 5 (by omega) 5 rfl, jin_nI (by omega) (by omega), jal_c, jal_n, Bool.and_true, if_pos rfl, nI_clamp (by omega), jlw_e, tl, m_151 (by omega)]
      refine ⟨fun z => absurd z g5, fun _ => ⟨_, rfl, At_fr b2 (by dsimp only; rw [jup_fn (by omega)]) (fun q _ => by dsimp only; rw [jup_ne (by omega)]) rfl, Xk_t (Xk_j (by omega) (by omega) (by omega)) (Xk_t (Xk_m (Xm_m b3 (by omega)) (by omega)) s12)⟩⟩
    rw [if_neg g5]
    obtain ⟨v, b1, b2, b3⟩ := q1 (by omega)
    have b3' : Xm (1680 + 800 * t + 140) p v w5 := b3
    obtain ⟨⟨m1, m2, m3, m4, m5, m6, m7⟩, m8⟩ := b2
    have e94 : ∀ q, q < 1680 + 800 * t + 140 → v.1 94 q = w5.1 94 q := fun q hq => b3'.2.2 q (by omega)
    have Sv : Sm P n t R v w ((prd (kk P n) (uu P n) 10).2 0 (i + 1)).2.1 j p [(4, p), (0, kk P n i + 1)] ((prd (kk P n) (uu P n) 10).2 0 (i + 1)).2.2 := ⟨m1, p3, s3, s4, m3, by rw [b3'.2.1 13 (by omega)]; exact s6, m4, m5, fun e he => by rw [e94 _ (by have := s10 e he; omega)]; exact s9 e he, s10, m8, Xk_t (Xk_m b3' (by omega)) s12⟩
    have Sv2 := Sm_j (col := 5) (x := p + tln ((prd (kk P n) (uu P n) 10).2 0 (i + 1)).2.2) (by omega) (fun e he => by
      rcases List.mem_cons.mp he with rfl | he
      · show 4 ≠ 5; omega
      · have := List.mem_singleton.mp he; rw [this]; show 0 ≠ 5; omega) Sv
    rw [b1, ob, ad 5 (by omega) 5 rfl, jin_nI (by omega) (by omega), jal_c, jal_n, Bool.and_true, if_pos rfl, nI_clamp (by omega), jlw_e, tl]
    dsimp only
    rw [show v.1 93 14 = nI (p + tln ((prd (kk P n) (uu P n) 10).2 0 (i + 1)).2.2) from m4]
    exact m_end hk Sv2 (by simp) (fun _ => ⟨by simp, by simp⟩) (fun z1 z2 => by omega) (fun z => by omega) (fun z => by omega)
  have in0 : ∀ e : Nat × Nat, e ∈ [(0, kk P n i + 1)] → e.1 = 0 := fun e he => by rw [List.mem_singleton.mp he]
  have tk1 : ∀ lo hi, lo ≤ 2000 → hi ≤ 2000 → (∃ v, kk P n (i + 1) = 27 ∧ lo ≤ uu P n (i + 1) ∧ uu P n (i + 1) ≤ hi ∧ f_Model_take (nI lo) (nI hi) (nI (1680 + 800 * t + 2 + 8 * j) + 1) w4 = some (0, v) ∧ Sm P n t R v w (i + 1 + 1) j p [(1, uu P n (i + 1)), (0, kk P n i + 1)] []) ∨ ∃ e, (e = 1 ∨ e = 2) ∧ f_Model_take (nI lo) (nI hi) (nI (1680 + 800 * t + 2 + 8 * j) + 1) w4 = some (nI e, w4) ∧ ∀ F, pT (kk P n) (uu P n) lo hi (i + 1) F = (e, i + 1, 0, 0, 0, []) := fun lo hi hlo hhi => m_tk3 (col := 1) hk S4 (ad 1 (by omega) 1 rfl) (by omega) (fun e he => by have := in0 e he; omega) hlo hhi
  by_cases c0 : kk P n i = 0
  · rw [if_pos (show nI (kk P n i + 1) = 1 by rw [c0]; rfl), if_neg (by omega), if_neg (by omega), if_neg (by omega), if_neg (by omega)]
    exact j60 (Or.inl c0)
  rw [if_neg (show ¬ nI (kk P n i + 1) = 1 from nI_ne' (b := 1) (by omega) (by omega) (by omega))]
  by_cases c4 : kk P n i = 4
  · rw [if_pos (show nI (kk P n i + 1) = 5 by rw [c4]; rfl), if_neg (by omega), if_neg (by omega), if_neg (by omega), if_neg (by omega)]
    exact j60 (Or.inr c4)
  rw [if_neg (show ¬ nI (kk P n i + 1) = 5 from nI_ne' (b := 5) (by omega) (by omega) (by omega))]
  by_cases c1 : kk P n i = 1
  · have l2c : (nI (kk P n i + 1) : Int32) = 2 := by rw [c1]; rfl
    rw [if_pos c1, l2c, f_Model_clause_j89, if_pos rfl, f_Model_limit]
    rcases tk1 0 99 (by omega) (by omega) with ⟨v1, a1, a2, a3, a4, a5⟩ | ⟨e, he, e1, e2⟩
    rotate_left
    · rw [e2, show f_Model_take 0 99 _ w4 = _ from e1, ob]
      dsimp only
      rw [if_neg (n12 he), m_lb (n12 he), ob, m_t2, m_151 (by omega)]
      exact Km_f S4 (by omega) rfl
    rw [pT_ok a1 a2 a3, show f_Model_take 0 99 _ w4 = _ from a4, ob]
    dsimp only
    rw [if_pos rfl, show f_Model_w4 102 114 111 109 v1 = _ from w4_n (a := 102) (b := 114) (c := 111) (d := 109) (by omega) (by omega) (by omega) (by omega), ob]
    dsimp only
    rcases m_nd2 (m := 7) (W := [102, 114, 111, 109]) hk a5 (by omega) rfl rfl with ⟨v2, b1, b2, b3⟩ | ⟨b1, b2⟩
    rotate_left
    · rw [pX_no b1, b2, ob, m_lb one_ne, ob, m_t2, m_1511]
      exact Km_f a5 (by omega) rfl
    rw [pX_ok b1, b2, ob, f_Model_limit_j31, if_pos rfl]
    rcases m_tk3 (col := 2) (lo := 0) (hi := 1999) hk b3 (ad 2 (by omega) 2 rfl) (by omega) (fun e he => by
      rcases List.mem_cons.mp he with rfl | he
      · show 1 ≠ 2; omega
      · have := in0 e he; omega) (by omega) (by omega) with ⟨v3, f1, f2, f3, f4, f5⟩ | ⟨e, he, e1, e2⟩
    rotate_left
    · rw [e2, show f_Model_take 0 1999 _ v2 = _ from e1, ob, m_lb2 (n12 he), ob, m_t2, m_151 (by omega)]
      exact Km_f b3 (by omega) rfl
    rw [pT_ok f1 f2 f3, show f_Model_take 0 1999 _ v2 = _ from f4, ob, f_Model_limit_j47, if_pos rfl]
    have h9 : v3.1 93 9 = kdF (v3.1 97) n (tkS P n (i + 4)) := f5.1.2.2.2.2.1
    have k8 : (∃ h : kdF (v3.1 97) n (tkS P n (i + 4)) = 2, lg_cmp (v3.2 93 11) 29807 = 0) ↔ kk P n (i + 4) = 8 := by
      constructor
      · rintro ⟨h2, h⟩
        rw [wd_k f5.1.2.2 h2 (m := 8) (W := [116, 111]) rfl (by decide), m_kk f5.1] at h
        exact h
      · intro h
        have h2 : kdF (v3.1 97) n (tkS P n (i + 4)) = 2 := kd_2.1 (by rw [m_kk f5.1]; show kk P n (i + 4) < 18; omega)
        refine ⟨h2, ?_⟩
        rw [wd_k f5.1.2.2 h2 (m := 8) (W := [116, 111]) rfl (by decide), m_kk f5.1]
        exact h
    by_cases g8 : kk P n (i + 4) = 8
    rotate_left
    · have e72 : (if v3.1 93 9 = 2 then (if lg_cmp (v3.2 93 11) 29807 = 0 then f_Model_limit_j72 (nI (1680 + 800 * t + 2 + 8 * j)) 0 v3 else f_Model_limit_j70 (nI (1680 + 800 * t + 2 + 8 * j)) v3) else f_Model_limit_j70 (nI (1680 + 800 * t + 2 + 8 * j)) v3) = some (1, v3) := by
        have j70 : f_Model_limit_j70 (nI (1680 + 800 * t + 2 + 8 * j)) v3 = some (1, v3) := by rw [f_Model_limit_j70, f_Model_limit_j72, if_neg one_ne]
        by_cases z : v3.1 93 9 = 2
        · rw [if_pos z]
          by_cases y : lg_cmp (v3.2 93 11) 29807 = 0
          · exact absurd (k8.mp ⟨h9.symm.trans z, y⟩) g8
          · rw [if_neg y, j70]
        · rw [if_neg z, j70]
      rw [e72, pX_no g8, ob, m_t2, m_1511]
      exact Km_f f5 (by omega) rfl
    obtain ⟨hz2, hz3⟩ := k8.mpr g8
    rw [if_pos (h9.trans hz2), if_pos hz3, pX_ok g8, f_Model_limit_j72, if_pos rfl]
    obtain ⟨v4, y1, y2, y3⟩ := m_nx f5.1
    have S6 := Sm_x y2 f5 y3 (kR_s hk f5.2.1 g8 (by omega))
    have e2c : v4.1 94 (1680 + 800 * t + 2 + 8 * j + 2) = nI (uu P n (i + 3)) := S6.2.2.2.2.2.2.2.2.1 (2, uu P n (i + 1 + 1 + 1)) (by simp)
    rw [y1, ob, ad 2 (by omega) 2 rfl, jin_nI (by omega) (by omega), jal_c, jal_n, Bool.and_true, if_pos rfl, nI_clamp (by omega), e2c]
    rcases m_tk3 (col := 3) (lo := uu P n (i + 3)) (hi := 1999) hk S6 (ad 3 (by omega) 3 rfl) (by omega) (fun e he => by
      rcases List.mem_cons.mp he with rfl | he
      · show 2 ≠ 3; omega
      rcases List.mem_cons.mp he with rfl | he
      · show 1 ≠ 3; omega
      · have := in0 e he; omega) (by have : uu P n (i + 3) ≤ 1999 := f3; omega) (by omega) with ⟨v5, x1, x2, x3, x4, x5⟩ | ⟨e, he, e1, e2⟩
    rotate_left
    · rw [e2, show f_Model_take (nI (uu P n (i + 3))) 1999 _ v4 = _ from e1, ob, ob, m_t2, m_151 (by omega)]
      exact Km_f S6 (by omega) rfl
    rw [pT_ok x1 x2 x3, show f_Model_take (nI (uu P n (i + 3))) 1999 _ v4 = _ from x4, ob, ob, m_t2]
    exact m_end hk x5 (by rw [c1]; simp) (fun z => by omega) (fun _ _ => by simp) (fun _ => by simp) (fun _ => by simp)
  rw [if_neg c1]
  have nn : ∀ a : Nat, a < 100 → kk P n i + 1 ≠ a → ¬ nI (kk P n i + 1) = nI a := fun a ha z => nI_ne' (by omega) (by omega) z
  rw [f_Model_clause_j89, if_neg (show ¬ nI (kk P n i + 1) = 2 from nn 2 (by omega) (by omega)), f_Model_clause_j100]
  have simple : ∀ v1, Sm P n t R v1 w (i + 1 + 1) j p [(1, uu P n (i + 1)), (0, kk P n i + 1)] [] → kk P n i ≠ 1 → kk P n i ≠ 5 → kk P n i ≠ 0 → kk P n i ≠ 4 → Km (f_Model_clause_j151 0 v1) w P n t j p (kk P n i) (pX (kk P n) 26 (i + 2) (0, i + 3, uu P n (i + 1), 0, 0, [])) := fun v1 a5 z1 z5 z0 z4 => m_end hk a5 (by simp) (fun z => by omega) (fun _ _ => by simp) (fun z => by omega) (fun z => by omega)
  by_cases c26 : kk P n i = 2 ∨ kk P n i = 6
  · have ej : ∀ v c, f_Model_clause_j123 (nI (kk P n i + 1)) (nI (1680 + 800 * t + 2 + 8 * j)) c v = f_Model_clause_j151 c v := fun v c => by
      rw [f_Model_clause_j123, if_neg (show ¬ nI (kk P n i + 1) = 4 from nn 4 (by omega) (by omega)), f_Model_clause_j139, if_neg (show ¬ nI (kk P n i + 1) = 6 from nn 6 (by omega) (by omega))]
    have e111 : (if nI (kk P n i + 1) = 3 then f_Model_clause_j111 (nI (kk P n i + 1)) (nI (1680 + 800 * t + 2 + 8 * j)) w4 else if nI (kk P n i + 1) = 7 then f_Model_clause_j111 (nI (kk P n i + 1)) (nI (1680 + 800 * t + 2 + 8 * j)) w4 else f_Model_clause_j123 (nI (kk P n i + 1)) (nI (1680 + 800 * t + 2 + 8 * j)) 0 w4) = f_Model_clause_j111 (nI (kk P n i + 1)) (nI (1680 + 800 * t + 2 + 8 * j)) w4 := by
      rcases c26 with z | z
      · rw [if_pos (by rw [z]; rfl)]
      · rw [if_neg (show ¬ nI (kk P n i + 1) = 3 from nn 3 (by omega) (by omega)), if_pos (by rw [z]; rfl)]
    rw [if_pos c26, e111, f_Model_clause_j111]
    rcases tk1 0 360 (by omega) (by omega) with ⟨v1, a1, a2, a3, a4, a5⟩ | ⟨e, he, e1, e2⟩
    rotate_left
    · rw [e2, show f_Model_take 0 360 _ w4 = _ from e1, ob, ej, m_151 (by omega)]
      exact Km_f S4 (by omega) rfl
    rw [pT_ok a1 a2 a3, show f_Model_take 0 360 _ w4 = _ from a4, ob, ej]
    exact simple v1 a5 (by omega) (by omega) (by omega) (by omega)
  rw [if_neg c26, if_neg (show ¬ nI (kk P n i + 1) = 3 from nn 3 (by omega) (by omega)), if_neg (show ¬ nI (kk P n i + 1) = 7 from nn 7 (by omega) (by omega)), f_Model_clause_j123]
  by_cases c3 : kk P n i = 3
  · rw [if_pos c3, if_pos (show nI (kk P n i + 1) = 4 by rw [c3]; rfl)]
    have ej : ∀ v c, f_Model_clause_j139 (nI (kk P n i + 1)) (nI (1680 + 800 * t + 2 + 8 * j)) c v = f_Model_clause_j151 c v := fun v c => by
      rw [f_Model_clause_j139, if_neg (show ¬ nI (kk P n i + 1) = 6 from nn 6 (by omega) (by omega))]
    rcases tk1 0 99 (by omega) (by omega) with ⟨v1, a1, a2, a3, a4, a5⟩ | ⟨e, he, e1, e2⟩
    rotate_left
    · rw [e2, show f_Model_take 0 99 _ w4 = _ from e1, ob, ej, m_151 (by omega)]
      exact Km_f S4 (by omega) rfl
    rw [pT_ok a1 a2 a3, show f_Model_take 0 99 _ w4 = _ from a4, ob, ej]
    exact simple v1 a5 (by omega) (by omega) (by omega) (by omega)
  have c5 : kk P n i = 5 := by omega
  rw [if_neg c3, if_neg (show ¬ nI (kk P n i + 1) = 4 from nn 4 (by omega) (by omega)), f_Model_clause_j139, if_pos (show nI (kk P n i + 1) = 6 by rw [c5]; rfl), if_pos c5, f_Model_stepping]
  rcases tk1 1 9 (by omega) (by omega) with ⟨v1, a1, a2, a3, a4, a5⟩ | ⟨e, he, e1, e2⟩
  rotate_left
  · rw [e2, show f_Model_take 1 9 _ w4 = _ from e1, ob]
    dsimp only
    rw [if_neg (n12 he), m_sb (n12 he), ob, m_151 (by omega)]
    exact Km_f S4 (by omega) rfl
  rw [pT_ok a1 a2 a3, show f_Model_take 1 9 _ w4 = _ from a4, ob]
  dsimp only
  rw [if_pos rfl, show f_Model_w4 119 97 105 116 v1 = _ from w4_n (a := 119) (b := 97) (c := 105) (d := 116) (by omega) (by omega) (by omega) (by omega), ob]
  dsimp only
  rcases m_nd2 (m := 9) (W := [119, 97, 105, 116]) hk a5 (by omega) rfl rfl with ⟨v2, b1, b2, b3⟩ | ⟨b1, b2⟩
  rotate_left
  · rw [pX_no b1, b2, ob, m_sb one_ne, ob, m_1511]
    exact Km_f a5 (by omega) rfl
  rw [pX_ok b1, b2, ob, f_Model_stepping_j31, if_pos rfl]
  rcases m_tk3 (col := 2) (lo := 0) (hi := 99) hk b3 (ad 2 (by omega) 2 rfl) (by omega) (fun e he => by
    rcases List.mem_cons.mp he with rfl | he
    · show 1 ≠ 2; omega
    · have := in0 e he; omega) (by omega) (by omega) with ⟨v3, f1, f2, f3, f4, f5⟩ | ⟨e, he, e1, e2⟩
  rotate_left
  · rw [e2, show f_Model_take 0 99 _ v2 = _ from e1, ob, ob, m_151 (by omega)]
    exact Km_f b3 (by omega) rfl
  rw [pT_ok f1 f2 f3, show f_Model_take 0 99 _ v2 = _ from f4, ob, ob]
  exact m_end hk f5 (by rw [c5]; simp) (fun z => by omega) (fun _ _ => by simp) (fun _ => by simp) (fun z => by omega)
end MK

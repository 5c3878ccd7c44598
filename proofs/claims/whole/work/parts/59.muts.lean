/-! LAYER B: the image; feed -/
section Q8
variable {w v : jW} {A : Nat → Int32} {c ci : Nat → Nat} {K : Nat}

/-- is a cell a table's own -/
def hdr (b : Nat) : Bool := ([4, 6, 8, 10, 12, 14, 17, 19, 21, 24, 26, 28, 30, 32, 34, 36, 39, 41, 43, 45, 47, 49, 52, 54, 56, 59, 61, 63, 65, 67, 69, 71] : List Nat).elem b
/-- the world with the references' idle numbers away -/
def nrm (w : jW) : jW := (fun b j => if hdr b = true then (if j = 1 then 0 else w.1 b j) else w.1 b j, w.2)
theorem nrm_JR {R W cap n : Nat} : JR (nrm w) R W cap n ↔ JR w R W cap n := by
  have e0 : (nrm w).1 R 0 = w.1 R 0 := by
    show (if hdr R = true then (if 0 = 1 then 0 else w.1 R 0) else w.1 R 0) = _
    split
    · rw [if_neg (by decide)]
    · rfl
  have e2 : (nrm w).1 R 2 = w.1 R 2 := by
    show (if hdr R = true then (if 2 = 1 then 0 else w.1 R 2) else w.1 R 2) = _
    split
    · rw [if_neg (by decide)]
    · rfl
  unfold JR
  rw [e0, e2]
theorem nrm_RT {R W cap cnt base st : Nat} {cm : Nat → Nat} (h : hdr (R + 1) = false) : RT (nrm w) R W cap A cnt base st cm ↔ RT w R W cap A cnt base st cm := by
  unfold RT
  simp only [nrm_JR]
  have e : ∀ j, (nrm w).1 (R + 1) j = w.1 (R + 1) j := fun j => by
    show (if hdr (R + 1) = true then _ else _) = _
    rw [h]; rfl
  simp only [e]
theorem nrm_ne {b j : Nat} (h : hdr b = false) : (nrm w).1 b j = w.1 b j := by
  show (if hdr b = true then _ else _) = _
  rw [h]; rfl
theorem nrm_RA {b : Nat} (hb : b = 3 ∨ b = 38) : RA (nrm w) b A c K ↔ RA w b A c K := by
  have hh : ∀ o, o = 0 ∨ o = 2 ∨ o = 4 ∨ o = 6 ∨ o = 8 ∨ o = 10 ∨ o = 12 ∨ o = 15 ∨ o = 17 ∨ o = 19 ∨ o = 22 ∨ o = 24 ∨ o = 26 ∨ o = 28 ∨ o = 30 ∨ o = 32 ∨ o = 34 → hdr (b + o) = false := fun o ho => by
    rcases hb with rfl | rfl
    · rcases ho with rfl | rfl | rfl | rfl | rfl | rfl | rfl | rfl | rfl | rfl | rfl | rfl | rfl | rfl | rfl | rfl | rfl <;> rfl
    · rcases ho with rfl | rfl | rfl | rfl | rfl | rfl | rfl | rfl | rfl | rfl | rfl | rfl | rfl | rfl | rfl | rfl | rfl <;> rfl
  have e : ∀ o, o = 0 ∨ o = 2 ∨ o = 4 ∨ o = 6 ∨ o = 8 ∨ o = 10 ∨ o = 12 ∨ o = 15 ∨ o = 17 ∨ o = 19 ∨ o = 22 ∨ o = 24 ∨ o = 26 ∨ o = 28 ∨ o = 30 ∨ o = 32 ∨ o = 34 → ∀ j, (nrm w).1 (b + o) j = w.1 (b + o) j := fun o ho j => nrm_ne (hh o ho)
  have e0 : ∀ j, (nrm w).1 b j = w.1 b j := fun j => e 0 (by omega) j
  have r1 : Rscal (nrm w) b A ↔ Rscal w b A := by unfold Rscal; simp only [e0]
  have r2 : Rsort (nrm w) b A ↔ Rsort w b A := by unfold Rsort; simp only [nrm_JR, e 2 (by omega)]
  have r3 : Rsite (nrm w) b A ↔ Rsite w b A := nrm_RT (hh 4 (by omega))
  have r4 : Rthing (nrm w) b A ↔ Rthing w b A := nrm_RT (hh 8 (by omega))
  have r5 : Rmove (nrm w) b A ↔ Rmove w b A := nrm_RT (hh 10 (by omega))
  have r6 : Rseal (nrm w) b A ↔ Rseal w b A := nrm_RT (hh 12 (by omega))
  have r7 : Rtold (nrm w) b A ↔ Rtold w b A := nrm_RT (hh 22 (by omega))
  have r8 : Rvis (nrm w) b A ↔ Rvis w b A := nrm_RT (hh 24 (by omega))
  have r9 : Rpic (nrm w) b A ↔ Rpic w b A := nrm_RT (hh 26 (by omega))
  have r10 : Rque (nrm w) b A ↔ Rque w b A := nrm_RT (hh 28 (by omega))
  have r11 : Ract (nrm w) b A ↔ Ract w b A := nrm_RT (hh 30 (by omega))
  have r12 : Rcld (nrm w) b A ↔ Rcld w b A := nrm_RT (hh 32 (by omega))
  have r13 : Rwat (nrm w) b A ↔ Rwat w b A := nrm_RT (hh 34 (by omega))
  have r14 : Rchain (nrm w) b A ↔ Rchain w b A := by unfold Rchain; simp only [e 8 (by omega), e 10 (by omega)]
  have r15 : Rvis2 (nrm w) b A c ↔ Rvis2 w b A c := by unfold Rvis2; simp only [e 24 (by omega)]
  have r16 : Ract2 (nrm w) b A c ↔ Ract2 w b A c := by unfold Ract2; simp only [e 30 (by omega)]
  have r17 : Rway (nrm w) b A c ↔ Rway w b A c := by unfold Rway; simp only [nrm_JR, e 6 (by omega)]
  have r18 : Rtext (nrm w) b A c ↔ Rtext w b A c := by
    have f19 : (nrm w).1 (b + 19) = w.1 (b + 19) := funext (e 19 (by omega))
    unfold Rtext Rtx Rcl Rcnd
    simp only [nrm_JR, e 15 (by omega), e 17 (by omega), f19]
  unfold RA RR
  rw [r1, r2, r3, r4, r5, r6, r7, r8, r9, r10, r11, r12, r13, r14, r15, r16, r17, r18]
theorem rows_copy {R R' L : Nat} (h1 : jSr jR0 R 1 = R + 1) (h2 : jSr jR0 R' 1 = R' + 1) (h3 : jSl jR0 (R + 1) = L) (h4 : jSl jR0 (R' + 1) = L) (hL : L < 2 ^ 31) (hne : R' ≠ R + 1) : ∃ v, f_Rows_copy R R' w = some v ∧ v.1 R 2 = w.1 R' 2 ∧ (∀ j, j < L → v.1 (R + 1) j = w.1 (R' + 1) j) ∧ ∀ b j, ¬ (b = R ∧ j = 2) → b ≠ R + 1 → v.1 b j = w.1 b j := by
  have cl : (Int32.ofNat L).toNatClampNeg = L := nI_clamp hL
  have hg : jcg 0 0 (Int32.ofNat L) L L = true := by
    have p : ¬ Int32.ofNat L < 0 := nI_pos hL
    have z : (0 : Int32).toNatClampNeg = 0 := by decide
    unfold jcg
    rw [cl, z, decide_eq_false p]
    simp
  refine ⟨(jup (jcpw w (R' + 1) (R + 1) 0 0 (Int32.ofNat L)).1 R 2 ((jcpw w (R' + 1) (R + 1) 0 0 (Int32.ofNat L)).1 R' 2), w.2), ?_, ?_, ?_, ?_⟩
  · rw [f_Rows_copy, h1, h2, h3, h4, if_pos rfl, if_pos hg]
    rfl
  · dsimp only
    rw [jup_eq]
    show (if R' = R + 1 then _ else w.1 R' 2) = _
    rw [if_neg hne]
  · intro j hj
    dsimp only
    rw [jup_ne (by omega)]
    show (if R + 1 = R + 1 then va_cpy (w.1 (R' + 1)) (w.1 (R + 1)) (0 : Int32).toNatClampNeg (0 : Int32).toNatClampNeg (Int32.ofNat L).toNatClampNeg j else _) = _
    rw [if_pos rfl, cl, show (0 : Int32).toNatClampNeg = 0 by decide]
    show (if 0 ≤ j ∧ j < 0 + L then w.1 (R' + 1) (0 + (j - 0)) else _) = _
    rw [if_pos (by omega), show 0 + (j - 0) = j by omega]
  · intro b j q1 q2
    dsimp only
    rw [jup_ap, if_neg q1]
    show (if b = R + 1 then _ else w.1 b j) = _
    rw [if_neg q2]
/-- tables copied one behind the other -/
def cpk (a a' : Nat) (k : jW → Option jW) : List Nat → jW → Option jW
  | [], w => k w
  | o :: l, w => Option.bind (f_Rows_copy (a + o) (a' + o) w) (cpk a a' k l)
def okl : List Nat → Prop
  | [] => True
  | o :: l => (∀ x ∈ l, o + 1 < x) ∧ okl l
theorem cpk_ok {a a' : Nat} {k : jW → Option jW} (hd : ∀ x y, x < 35 → y < 35 → a + x ≠ a' + y) : ∀ (l : List Nat) (w : jW), okl l → (∀ x ∈ l, x < 34 ∧ jSr jR0 (a + x) 1 = a + x + 1 ∧ jSr jR0 (a' + x) 1 = a' + x + 1 ∧ jSl jR0 (a + x + 1) = wl (x + 1) ∧ jSl jR0 (a' + x + 1) = wl (x + 1) ∧ wl (x + 1) < 2 ^ 31) → ∃ v, cpk a a' k l w = k v ∧ (∀ x ∈ l, v.1 (a + x) 2 = w.1 (a' + x) 2 ∧ ∀ j, j < wl (x + 1) → v.1 (a + x + 1) j = w.1 (a' + x + 1) j) ∧ ∀ b j, (∀ x ∈ l, ¬ (b = a + x ∧ j = 2) ∧ b ≠ a + x + 1) → v.1 b j = w.1 b j := by
  intro l
  induction l with
  | nil => intro w _ _; exact ⟨w, rfl, fun x hx => absurd hx (List.not_mem_nil), fun b j _ => rfl⟩
  | cons o l ih =>
    intro w ho hl
    obtain ⟨q0, q1, q2, q3, q4, q5⟩ := hl o List.mem_cons_self
    obtain ⟨v1, e1, e2, e3, e4⟩ := rows_copy (w := w) q1 q2 q3 q4 q5 (fun z => hd (o + 1) o (by omega) (by omega) (by omega))
    obtain ⟨v, s1, s2, s3⟩ := ih v1 ho.2 (fun x hx => hl x (List.mem_cons_of_mem _ hx))
    refine ⟨v, ?_, fun x hx => ?_, fun b j hb => ?_⟩
    · rw [cpk, e1]; exact s1
    · rcases List.mem_cons.mp hx with rfl | hx
      · have fr : ∀ b j, (b = a + x ∨ b = a + x + 1) → v.1 b j = v1.1 b j := fun b j hb => s3 b j (fun y hy => by
          have := ho.1 y hy
          omega)
        refine ⟨(fr _ _ (Or.inl rfl)).trans e2, fun j hj => (fr _ _ (Or.inr rfl)).trans (e3 j hj)⟩
      · have hx35 := (hl x (List.mem_cons_of_mem _ hx)).1
        have g := s2 x hx
        refine ⟨g.1.trans (e4 _ _ (fun z => hd o x (by omega) (by omega) z.1.symm) (fun z => hd (o + 1) x (by omega) (by omega) (by omega))), fun j hj => (g.2 j hj).trans (e4 _ _ (fun z => hd o (x + 1) (by omega) (by omega) (by omega)) (fun z => hd (o + 1) (x + 1) (by omega) (by omega) (by omega)))⟩
    · have g := hb o List.mem_cons_self
      exact (s3 b j (fun x hx => hb x (List.mem_cons_of_mem _ hx))).trans (e4 b j g.1 g.2)
def TL : List Nat := [1, 3, 5, 7, 9, 11, 14, 16, 18, 21, 23, 25, 27, 29, 31, 33]
theorem cpk_as {a a' : Nat} {k : jW → Option jW} : ∀ (l l' : List Nat) (w : jW), cpk a a' (cpk a a' k l') l w = cpk a a' k (l ++ l') w := by
  intro l
  induction l with
  | nil => intro l' w; rfl
  | cons o l ih =>
    intro l' w
    show Option.bind _ _ = Option.bind _ _
    congr 1
    exact funext fun q => ih l' q
theorem cpk_bd {a a' : Nat} {k : jW → Option jW} : ∀ (l : List Nat) (w : jW), Option.bind (cpk a a' some l w) k = cpk a a' k l w := by
  intro l
  induction l with
  | nil => intro w; rfl
  | cons o l ih =>
    intro w
    show Option.bind (Option.bind _ _) _ = Option.bind _ _
    rw [Option.bind_assoc]
    congr 1
    exact funext fun q => ih q
theorem state_copy {a a' : Nat} (ha : a = 3 ∧ a' = 38 ∨ a = 38 ∧ a' = 3) : ∃ v, f_State_copy a a' w = some v ∧ (∀ j, j < 5 → v.1 a j = w.1 a' j) ∧ (∀ x ∈ TL, v.1 (a + x) 2 = w.1 (a' + x) 2 ∧ ∀ j, j < wl (x + 1) → v.1 (a + x + 1) j = w.1 (a' + x + 1) j) ∧ ∀ b j, ¬ (b = a ∧ j < 5) → (∀ x ∈ TL, ¬ (b = a + x ∧ j = 2) ∧ b ≠ a + x + 1) → v.1 b j = w.1 b j := by
  obtain ⟨w0, hw0⟩ : ∃ v : jW, v = (jup (jup (jup (jup (jup w.1 a 0 (w.1 a' 0)) a 1 (w.1 a' 1)) a 2 (w.1 a' 2)) a 3 (w.1 a' 3)) a 4 (w.1 a' 4), w.2) := ⟨_, rfl⟩
  have hne : a' ≠ a := by omega
  have e : f_State_copy a a' w = cpk a a' some TL w0 := by
    have e1 : f_State_copy a a' w = cpk a a' (fun q => Option.bind (f_Treaty_copy (a + 13) (a' + 13) q) (cpk a a' some [21, 23, 25, 27, 29, 31, 33])) [1, 3, 5, 7, 9, 11] w0 := by
      rw [f_State_copy, hw0]
      simp only [jlw_e, jup_ne hne]
      rcases ha with ⟨rfl, rfl⟩ | ⟨rfl, rfl⟩ <;> rfl
    have e2 : ∀ q, f_Treaty_copy (a + 13) (a' + 13) q = cpk a a' some [14, 16, 18] q := fun q => by
      rcases ha with ⟨rfl, rfl⟩ | ⟨rfl, rfl⟩ <;> rfl
    rw [e1]
    simp only [e2, cpk_bd]
    have e3 : ∀ q, cpk a a' (cpk a a' some [21, 23, 25, 27, 29, 31, 33]) [14, 16, 18] q = cpk a a' some [14, 16, 18, 21, 23, 25, 27, 29, 31, 33] q := fun q => cpk_as _ _ q
    have e4 : (fun q => cpk a a' (cpk a a' some [21, 23, 25, 27, 29, 31, 33]) [14, 16, 18] q) = cpk a a' some [14, 16, 18, 21, 23, 25, 27, 29, 31, 33] := funext e3
    rw [e4, cpk_as]
    rfl
  obtain ⟨v, s1, s2, s3⟩ := cpk_ok (a := a) (a' := a') (k := some) (by omega) TL w0 (by unfold TL okl; simp [okl]) (by
    intro x hx
    unfold TL at hx
    simp only [List.mem_cons, List.not_mem_nil, or_false] at hx
    rcases ha with ⟨rfl, rfl⟩ | ⟨rfl, rfl⟩
    · rcases hx with rfl | rfl | rfl | rfl | rfl | rfl | rfl | rfl | rfl | rfl | rfl | rfl | rfl | rfl | rfl | rfl <;> decide
    · rcases hx with rfl | rfl | rfl | rfl | rfl | rfl | rfl | rfl | rfl | rfl | rfl | rfl | rfl | rfl | rfl | rfl <;> decide)
  have TLb : ∀ x ∈ TL, 1 ≤ x ∧ x ≤ 33 := by
    intro x hx
    unfold TL at hx
    simp only [List.mem_cons, List.not_mem_nil, or_false] at hx
    omega
  have o0 : ∀ b j, b ≠ a → w0.1 b j = w.1 b j := fun b j q => by rw [hw0]; dsimp only; rw [jup_ne q, jup_ne q, jup_ne q, jup_ne q, jup_ne q]
  refine ⟨v, e.trans s1, fun j hj => ?_, fun x hx => ?_, fun b j q1 q2 => ?_⟩
  · rw [s3 a j (fun x hx => by have := TLb x hx; omega), hw0]
    dsimp only
    rcases (show j = 0 ∨ j = 1 ∨ j = 2 ∨ j = 3 ∨ j = 4 by omega) with z | z | z | z | z <;> subst z
    all_goals simp (disch := omega) only [jup_k, jup_eq]
  · have hb := TLb x hx
    have g := s2 x hx
    exact ⟨g.1.trans (o0 _ _ (by omega)), fun j hj => (g.2 j hj).trans (o0 _ _ (by omega))⟩
  · rw [s3 b j q2, hw0]
    dsimp only
    rw [jup_ap, if_neg (by omega), jup_ap, if_neg (by omega), jup_ap, if_neg (by omega), jup_ap, if_neg (by omega), jup_ap, if_neg (by omega)]

/-- the tables' widths are what they are -/
def wid (x : Nat) : Nat := if x = 1 then 4 else if x = 3 then 5 else if x = 5 then 10 else if x = 7 then 11 else if x = 9 then 6 else if x = 11 then 2 else if x = 14 then 4 else if x = 16 then 4 else if x = 18 then 1 else if x = 21 then 4 else if x = 23 then 10 else if x = 25 then 3 else if x = 27 then 3 else if x = 29 then 5 else if x = 31 then 2 else if x = 33 then 2 else 0
theorem widths {b : Nat} (H : RA w b A c K) : ∀ x ∈ TL, w.1 (b + x) 0 = nI (wid x) := by
  intro x hx
  unfold TL at hx
  simp only [List.mem_cons, List.not_mem_nil, or_false] at hx
  rcases hx with rfl | rfl | rfl | rfl | rfl | rfl | rfl | rfl | rfl | rfl | rfl | rfl | rfl | rfl | rfl | rfl
  · exact (p_Rsort H).1.1
  · exact (show w.1 (b + 3) 0 = nI 5 from by obtain ⟨n, q1, q2, q3⟩ := p_Rsite H; exact q2.1)
  · exact (p_Rway H).1.1
  · exact (show w.1 (b + 7) 0 = nI 11 from by obtain ⟨n, q1, q2, q3⟩ := p_Rthing H; exact q2.1)
  · exact (show w.1 (b + 9) 0 = nI 6 from by obtain ⟨n, q1, q2, q3⟩ := p_Rmove H; exact q2.1)
  · exact (show w.1 (b + 11) 0 = nI 2 from by obtain ⟨n, q1, q2, q3⟩ := p_Rseal H; exact q2.1)
  · exact (show w.1 (b + 14) 0 = nI 4 from by obtain ⟨cs, ks, j1, j2, j3, -⟩ := p_Rtext H; exact j1.1)
  · exact (show w.1 (b + 16) 0 = nI 4 from by obtain ⟨cs, ks, j1, j2, j3, -⟩ := p_Rtext H; exact j2.1)
  · exact (show w.1 (b + 18) 0 = nI 1 from by obtain ⟨cs, ks, j1, j2, j3, -⟩ := p_Rtext H; exact j3.1)
  · exact (show w.1 (b + 21) 0 = nI 4 from by obtain ⟨n, q1, q2, q3⟩ := p_Rtold H; exact q2.1)
  · exact (show w.1 (b + 23) 0 = nI 10 from by obtain ⟨n, q1, q2, q3⟩ := p_Rvis H; exact q2.1)
  · exact (show w.1 (b + 25) 0 = nI 3 from by obtain ⟨n, q1, q2, q3⟩ := p_Rpic H; exact q2.1)
  · exact (show w.1 (b + 27) 0 = nI 3 from by obtain ⟨n, q1, q2, q3⟩ := p_Rque H; exact q2.1)
  · exact (show w.1 (b + 29) 0 = nI 5 from by obtain ⟨n, q1, q2, q3⟩ := p_Ract H; exact q2.1)
  · exact (show w.1 (b + 31) 0 = nI 2 from by obtain ⟨n, q1, q2, q3⟩ := p_Rcld H; exact q2.1)
  · exact (show w.1 (b + 33) 0 = nI 2 from by obtain ⟨n, q1, q2, q3⟩ := p_Rwat H; exact q2.1)
theorem RA_cp {a a' : Nat} {v : jW} {ca : Nat → Nat} {A' : Nat → Int32} (ha : a = 3 ∧ a' = 38 ∨ a = 38 ∧ a' = 3) (H : RA w a' A c K) (Ho : RA w a A' ca K) (h1 : ∀ j, j < 5 → v.1 a j = w.1 a' j) (h2 : ∀ x ∈ TL, v.1 (a + x) 2 = w.1 (a' + x) 2 ∧ ∀ j, j < wl (x + 1) → v.1 (a + x + 1) j = w.1 (a' + x + 1) j) (h3 : ∀ b j, ¬ (b = a ∧ j < 5) → (∀ x ∈ TL, ¬ (b = a + x ∧ j = 2) ∧ b ≠ a + x + 1) → v.1 b j = w.1 b j) : RA v a A c K := by
  have ha1 : a = 3 ∨ a = 38 := by omega
  have ha2 : a' = 3 ∨ a' = 38 := by omega
  have hK := (l_K H).2
  have TLn : ∀ x ∈ TL, ∀ y ∈ TL, a + x ≠ a + y + 1 := by
    intro x hx y hy
    unfold TL at hx hy
    simp only [List.mem_cons, List.not_mem_nil, or_false] at hx hy
    omega
  have TLb : ∀ x ∈ TL, 1 ≤ x ∧ x ≤ 33 := by
    intro x hx
    unfold TL at hx
    simp only [List.mem_cons, List.not_mem_nil, or_false] at hx
    omega
  refine (nrm_RA ha1).mp (RA_tr ((nrm_RA ha2).mpr H) ha1 (fun o j q1 q2 q3 => ?_) (fun _ _ => rfl) (Nat.le_refl _) hK)
  have hH : ∀ x ∈ TL, hdr (a + x) = true ∧ hdr (a' + x) = true ∧ hdr (a + x + 1) = false ∧ hdr (a' + x + 1) = false := by
    intro x hx
    unfold TL at hx
    simp only [List.mem_cons, List.not_mem_nil, or_false] at hx
    rcases ha with ⟨rfl, rfl⟩ | ⟨rfl, rfl⟩
    · rcases hx with rfl | rfl | rfl | rfl | rfl | rfl | rfl | rfl | rfl | rfl | rfl | rfl | rfl | rfl | rfl | rfl <;> decide
    · rcases hx with rfl | rfl | rfl | rfl | rfl | rfl | rfl | rfl | rfl | rfl | rfl | rfl | rfl | rfl | rfl | rfl <;> decide
  have ho : o = 0 ∨ o = 13 ∨ (o ∈ TL ∧ wl o = 3) ∨ ∃ x ∈ TL, o = x + 1 := by
    rcases (show o = 0 ∨ o = 1 ∨ o = 2 ∨ o = 3 ∨ o = 4 ∨ o = 5 ∨ o = 6 ∨ o = 7 ∨ o = 8 ∨ o = 9 ∨ o = 10 ∨ o = 11 ∨ o = 12 ∨ o = 13 ∨ o = 14 ∨ o = 15 ∨ o = 16 ∨ o = 17 ∨ o = 18 ∨ o = 19 ∨ o = 21 ∨ o = 22 ∨ o = 23 ∨ o = 24 ∨ o = 25 ∨ o = 26 ∨ o = 27 ∨ o = 28 ∨ o = 29 ∨ o = 30 ∨ o = 31 ∨ o = 32 ∨ o = 33 ∨ o = 34 by omega) with rfl | rfl | rfl | rfl | rfl | rfl | rfl | rfl | rfl | rfl | rfl | rfl | rfl | rfl | rfl | rfl | rfl | rfl | rfl | rfl | rfl | rfl | rfl | rfl | rfl | rfl | rfl | rfl | rfl | rfl | rfl | rfl | rfl | rfl
    · exact Or.inl rfl
    · exact Or.inr (Or.inr (Or.inl (by decide)))
    · exact Or.inr (Or.inr (Or.inr ⟨1, by decide, rfl⟩))
    · exact Or.inr (Or.inr (Or.inl (by decide)))
    · exact Or.inr (Or.inr (Or.inr ⟨3, by decide, rfl⟩))
    · exact Or.inr (Or.inr (Or.inl (by decide)))
    · exact Or.inr (Or.inr (Or.inr ⟨5, by decide, rfl⟩))
    · exact Or.inr (Or.inr (Or.inl (by decide)))
    · exact Or.inr (Or.inr (Or.inr ⟨7, by decide, rfl⟩))
    · exact Or.inr (Or.inr (Or.inl (by decide)))
    · exact Or.inr (Or.inr (Or.inr ⟨9, by decide, rfl⟩))
    · exact Or.inr (Or.inr (Or.inl (by decide)))
    · exact Or.inr (Or.inr (Or.inr ⟨11, by decide, rfl⟩))
    · exact Or.inr (Or.inl rfl)
    · exact Or.inr (Or.inr (Or.inl (by decide)))
    · exact Or.inr (Or.inr (Or.inr ⟨14, by decide, rfl⟩))
    · exact Or.inr (Or.inr (Or.inl (by decide)))
    · exact Or.inr (Or.inr (Or.inr ⟨16, by decide, rfl⟩))
    · exact Or.inr (Or.inr (Or.inl (by decide)))
    · exact Or.inr (Or.inr (Or.inr ⟨18, by decide, rfl⟩))
    · exact Or.inr (Or.inr (Or.inl (by decide)))
    · exact Or.inr (Or.inr (Or.inr ⟨21, by decide, rfl⟩))
    · exact Or.inr (Or.inr (Or.inl (by decide)))
    · exact Or.inr (Or.inr (Or.inr ⟨23, by decide, rfl⟩))
    · exact Or.inr (Or.inr (Or.inl (by decide)))
    · exact Or.inr (Or.inr (Or.inr ⟨25, by decide, rfl⟩))
    · exact Or.inr (Or.inr (Or.inl (by decide)))
    · exact Or.inr (Or.inr (Or.inr ⟨27, by decide, rfl⟩))
    · exact Or.inr (Or.inr (Or.inl (by decide)))
    · exact Or.inr (Or.inr (Or.inr ⟨29, by decide, rfl⟩))
    · exact Or.inr (Or.inr (Or.inl (by decide)))
    · exact Or.inr (Or.inr (Or.inr ⟨31, by decide, rfl⟩))
    · exact Or.inr (Or.inr (Or.inl (by decide)))
    · exact Or.inr (Or.inr (Or.inr ⟨33, by decide, rfl⟩))
  rcases ho with rfl | rfl | ⟨hx, hw3⟩ | ⟨x, hx, rfl⟩
  · have e0 : hdr (a + 0) = false ∧ hdr (a' + 0) = false := by
      rcases ha with ⟨rfl, rfl⟩ | ⟨rfl, rfl⟩ <;> decide
    rw [nrm_ne e0.1, nrm_ne e0.2]
    exact h1 j q3
  · exact absurd q3 (Nat.not_lt_zero j)
  · obtain ⟨k1, k2, -, -⟩ := hH o hx
    show (if hdr (a + o) = true then (if j = 1 then 0 else v.1 (a + o) j) else _) = (if hdr (a' + o) = true then (if j = 1 then 0 else w.1 (a' + o) j) else _)
    rw [if_pos k1, if_pos k2]
    by_cases z1 : j = 1
    · rw [if_pos z1, if_pos z1]
    · rw [if_neg z1, if_neg z1]
      by_cases z2 : j = 2
      · rw [z2]; exact (h2 o hx).1
      · have z0 : j = 0 := by omega
        have hb := TLb o hx
        rw [z0, h3 (a + o) 0 (by omega) (fun y hy => ⟨by omega, TLn o hx y hy⟩), widths Ho o hx, widths H o hx]
  · obtain ⟨-, -, k3, k4⟩ := hH x hx
    rw [nrm_ne (b := a + (x + 1)) k3, nrm_ne (b := a' + (x + 1)) k4]
    exact (h2 x hx).2 j q3
theorem mcopy_h {a0 a1 : Nat} (h0 : jSl jR0 a0 = 21000) (h1 : jSl jR0 a1 = 21000) (hne : a0 ≠ a1) : ∀ (m n k : Nat) (w : jW), k + m = 21000 → m < n → f_Model_copy_h2 a0 a1 n (nI k) w = some (jcpo w a0 a1 k) := by
  intro m
  induction m with
  | zero =>
    intro n k w hk hn
    obtain ⟨n, rfl⟩ : ∃ j, n = j + 1 := ⟨n - 1, by omega⟩
    rw [f_Model_copy_h2, if_neg (show ¬ nI k < 21000 from nI_nlt (a := k) (b := 21000) (by omega) (by omega))]
    congr 1
    refine Prod.ext (funext fun b => funext fun j => ?_) rfl
    show w.1 b j = if b = a1 ∧ k ≤ j ∧ j < 21000 then w.1 a0 j else w.1 b j
    rw [if_neg (by omega)]
  | succ m ih =>
    intro n k w hk hn
    obtain ⟨n, rfl⟩ : ∃ j, n = j + 1 := ⟨n - 1, by omega⟩
    rw [f_Model_copy_h2, if_pos (show nI k < 21000 from nI_lt (a := k) (b := 21000) (by omega) (by omega)), h0, h1]
    rw [if_pos (show jal [jin (nI k) 21000, jin (nI k) 21000] = true by
      rw [jin_nI (by omega) (by omega)]; rfl)]
    show f_Model_copy_h2 a0 a1 n (nI k + 1) (jup w.1 a1 (nI k).toNatClampNeg (w.1 a0 (nI k).toNatClampNeg), w.2) = _
    rw [nI_1, ih n (k + 1) _ (by omega) (by omega), nI_clamp (by omega)]
    congr 1
    refine Prod.ext (funext fun b => funext fun j => ?_) rfl
    show (if b = a1 ∧ k + 1 ≤ j ∧ j < 21000 then jup w.1 a1 k (w.1 a0 k) a0 j else jup w.1 a1 k (w.1 a0 k) b j) = if b = a1 ∧ k ≤ j ∧ j < 21000 then w.1 a0 j else w.1 b j
    by_cases c1 : b = a1 ∧ k + 1 ≤ j ∧ j < 21000
    · rw [if_pos c1, if_pos ⟨c1.1, by omega, c1.2.2⟩]
      exact jup_ne hne _
    · rw [if_neg c1]
      by_cases c2 : b = a1 ∧ k ≤ j ∧ j < 21000
      · have hj : j = k := by omega
        subst hj
        rw [if_pos c2, c2.1]
        exact jup_eq
      · rw [if_neg c2]
        unfold jup
        rw [if_neg (by omega)]
theorem mcopy {a0 a1 : Nat} (h0 : jSl jR0 a0 = 21000) (h1 : jSl jR0 a1 = 21000) (hne : a0 ≠ a1) : f_Model_copy a0 a1 w = some (jcpo w a0 a1 0) := mcopy_h h0 h1 hne 21000 jfu 0 w (by omega) (by unfold jfu; omega)
theorem RA_ext {b : Nat} {A' : Nat → Int32} (H : RA w b A c K) (hb : b = 3 ∨ b = 38) (h : ∀ k, k < 21000 → A' k = A k) : RA w b A' c K := RA_tr H hb (fun _ _ _ _ _ => rfl) h (Nat.le_refl _) (l_K H).2

theorem q_image (h : Inv w c ci K) (hK : K < 512) : Cal w (K + 1) f_Count_image f_Model_image := by
  obtain ⟨i1, i2, i3, i4⟩ := Inv_K h (Nat.le_succ K) (by omega)
  obtain ⟨v, e1, e2, e3, e4⟩ := state_copy (w := w) (a := 38) (a' := 3) (by omega)
  have TLb : ∀ x ∈ TL, 1 ≤ x ∧ x ≤ 33 := by
    intro x hx
    unfold TL at hx
    simp only [List.mem_cons, List.not_mem_nil, or_false] at hx
    omega
  have fv : ∀ b, b < 38 ∨ 38+35 ≤ b → v.1 b = w.1 b := fun b hb => funext fun j => e4 b j (by omega) (fun x hx => by have := TLb x hx; omega)
  have e94 : v.1 94 = w.1 94 := fv 94 (by omega)
  obtain ⟨W, hW⟩ : ∃ W : jW, W = jcpo v 94 95 0 := ⟨_, rfl⟩
  have fW : ∀ b, b ≠ 95 → W.1 b = v.1 b := fun b hb => funext fun j => by
    rw [hW]
    show (if b = 95 ∧ 0 ≤ j ∧ j < 21000 then _ else v.1 b j) = _
    rw [if_neg (fun z => hb z.1)]
  have gW : ∀ k, k < 21000 → W.1 95 k = w.1 94 k := fun k hk => by
    rw [hW]
    show (if 95 = 95 ∧ 0 ≤ k ∧ k < 21000 then v.1 94 k else _) = _
    rw [if_pos ⟨rfl, Nat.zero_le _, hk⟩, e94]
  have fr : ∀ b, (b < 38 ∨ 38+35 ≤ b) → b ≠ 95 → W.1 b = w.1 b := fun b h1 h2 => (fW b h2).trans (fv b h1)
  refine ⟨nI (c 0), v, W, c, c, ?_, ?_, ?_⟩
  · rw [f_Count_image, e1, ob]
    refine congrArg (fun z => some (z, v)) ?_
    rw [e4 3 0 (by omega) (fun x hx => by have := TLb x hx; omega)]; exact rs_0 i1
  · rw [f_Model_image, mcopy (by decide) (by decide) (by decide), ob, ← hW, if_pos (by decide), jk_0]
    refine congrArg (fun z => some (z, W)) ?_
    rw [fr 94 (by omega) (by omega)]; exact h_0 i1
  · refine ⟨?_, ?_, Rtp_fr i3 (fun b q1 q2 => fr b (by omega) (by omega)) (congrFun (fr 93 (by omega) (by omega)) 4) (fr 97 (by omega) (by omega)), Rft_fr i4 (fr 73 (by omega) (by omega)) (congrFun (fr 93 (by omega) (by omega)) 5) (congrFun (fr 93 (by omega) (by omega)) 6)⟩
    · rw [fr 94 (by omega) (by omega)]
      exact RA_fr i1 (fun b q1 q2 _ => fr b (by omega) (by omega))
    · refine RA_ext ?_ (Or.inr rfl) gW
      exact RA_38 (RA_cp (a := 38) (a' := 3) (by omega) i1 i2 e2 e3 e4) (fun b q1 q2 => fW b (by omega))

theorem q_back (h : Inv w c ci K) (hK : K < 512) : Cal w (K + 1) f_Count_back f_Model_back := by
  obtain ⟨i1, i2, i3, i4⟩ := Inv_K h (Nat.le_succ K) (by omega)
  obtain ⟨v, e1, e2, e3, e4⟩ := state_copy (w := w) (a := 3) (a' := 38) (by omega)
  have TLb : ∀ x ∈ TL, 1 ≤ x ∧ x ≤ 33 := by
    intro x hx
    unfold TL at hx
    simp only [List.mem_cons, List.not_mem_nil, or_false] at hx
    omega
  have fv : ∀ b, b < 3 ∨ 3+35 ≤ b → v.1 b = w.1 b := fun b hb => funext fun j => e4 b j (by omega) (fun x hx => by have := TLb x hx; omega)
  have e94 : v.1 95 = w.1 95 := fv 95 (by omega)
  obtain ⟨W, hW⟩ : ∃ W : jW, W = jcpo v 95 94 0 := ⟨_, rfl⟩
  have fW : ∀ b, b ≠ 94 → W.1 b = v.1 b := fun b hb => funext fun j => by
    rw [hW]
    show (if b = 94 ∧ 0 ≤ j ∧ j < 21000 then _ else v.1 b j) = _
    rw [if_neg (fun z => hb z.1)]
  have gW : ∀ k, k < 21000 → W.1 94 k = w.1 95 k := fun k hk => by
    rw [hW]
    show (if 94 = 94 ∧ 0 ≤ k ∧ k < 21000 then v.1 95 k else _) = _
    rw [if_pos ⟨rfl, Nat.zero_le _, hk⟩, e94]
  have fr : ∀ b, (b < 3 ∨ 3+35 ≤ b) → b ≠ 94 → W.1 b = w.1 b := fun b h1 h2 => (fW b h2).trans (fv b h1)
  refine ⟨nI (ci 0), v, W, ci, ci, ?_, ?_, ?_⟩
  · rw [f_Count_back, e1, ob]
    refine congrArg (fun z => some (z, v)) ?_
    rw [e2 0 (by omega), (p_Rscal i2).1]; exact h_0 i2
  · rw [f_Model_back, mcopy (by decide) (by decide) (by decide), ob, ← hW, if_pos (by decide), jk_0]
    refine congrArg (fun z => some (z, W)) ?_
    rw [gW 0 (by omega)]; exact h_0 i2
  · refine ⟨?_, ?_, Rtp_fr i3 (fun b q1 q2 => fr b (by omega) (by omega)) (congrFun (fr 93 (by omega) (by omega)) 4) (fr 97 (by omega) (by omega)), Rft_fr i4 (fr 73 (by omega) (by omega)) (congrFun (fr 93 (by omega) (by omega)) 5) (congrFun (fr 93 (by omega) (by omega)) 6)⟩
    · refine RA_ext ?_ (Or.inl rfl) gW
      exact RA_fr (RA_cp (a := 3) (a' := 38) (by omega) i2 i1 e2 e3 e4) (fun b q1 q2 _ => fW b (by omega))
    · rw [fr 95 (by omega) (by omega)]
      exact RA_38 i2 (fun b q1 q2 => fr b (by omega) (by omega))

def byt (x : Int32) (s : Int32) : Int32 := (x >>> (s &&& 31)) &&& 255
theorem and255 (z : Int32) : vb (z &&& 255) 0 255 := by
  refine ⟨(z.toBitVec &&& 255#32).toNat, ?_, Nat.zero_le _, ?_⟩
  · apply Int32.toBitVec_inj.mp
    show z.toBitVec &&& 255#32 = BitVec.ofNat 32 _
    rw [BitVec.ofNat_toNat]; simp
  · rw [BitVec.toNat_and]; exact Nat.and_le_right
def Cpu (v w : jW) (n m : Nat) (g : Nat → Int32) : Prop := JR v 79 1 300 (n + m) ∧ (∀ i, i < m → v.1 80 (n + i) = g i) ∧ (∀ k, k < n → v.1 80 k = w.1 80 k) ∧ ∀ b, b ≠ 79 → b ≠ 80 → v.1 b = w.1 b
theorem Cpu_s {n m : Nat} {g : Nat → Int32} (h : Cpu v w n m g) (hm : n + m < 300) : ∃ v', f_Rows_open 79 (g m) v = some (nI (n + m), v') ∧ Cpu v' w n (m + 1) g := by
  obtain ⟨h1, h2, h3, h4⟩ := h
  obtain ⟨v', e, a, J⟩ := ap_open h1 hm (g m)
  refine ⟨v', e, J, fun i hi => ?_, fun k hk => ?_, fun b q1 q2 => ?_⟩
  · by_cases q : i = m
    · have := a.2.1 0 (by omega)
      rw [show (n + m) * 1 + 0 = n + m by omega] at this
      rw [q]; exact this
    · rw [a.2.2 80 (n + i) (by omega)]; exact h2 i (by omega)
  · rw [a.2.2 80 k (by omega)]; exact h3 k hk
  · exact (Ap_fn a q1 q2).trans (h4 b q1 q2)
theorem c_addWord {n m : Nat} {g : Nat → Int32} {x : Int32} (h : Cpu v w n m g) (hm : n + m + 4 ≤ 300) (e0 : g m = byt x 24) (e1 : g (m + 1) = byt x 16) (e2 : g (m + 2) = byt x 8) (e3 : g (m + 3) = byt x 0) : ∃ v', f_Tokens_addWord x v = some v' ∧ Cpu v' w n (m + 4) g := by
  obtain ⟨v1, k1, h1⟩ := Cpu_s h (by omega)
  obtain ⟨v2, k2, h2⟩ := Cpu_s h1 (by omega)
  obtain ⟨v3, k3, h3⟩ := Cpu_s h2 (by omega)
  obtain ⟨v4, k4, h4⟩ := Cpu_s h3 (by omega)
  rw [e0, byt] at k1
  rw [e1, byt] at k2
  rw [show m + 1 + 1 = m + 2 by omega, e2, byt] at k3
  rw [show m + 1 + 1 + 1 = m + 3 by omega, e3, byt] at k4
  refine ⟨v4, ?_, h4⟩
  rw [f_Tokens_addWord, show jfu = 29995 + 1 + 1 + 1 + 1 + 1 from rfl, f_Tokens_addWord_h3, if_neg (by decide), k1, ob]
  show f_Tokens_addWord_h3 (29995 + 1 + 1 + 1 + 1) x 16 v1 = _
  rw [f_Tokens_addWord_h3, if_neg (by decide), k2, ob]
  show f_Tokens_addWord_h3 (29995 + 1 + 1 + 1) x 8 v2 = _
  rw [f_Tokens_addWord_h3, if_neg (by decide), k3, ob]
  show f_Tokens_addWord_h3 (29995 + 1 + 1) x 0 v3 = _
  rw [f_Tokens_addWord_h3, if_neg (by decide), k4, ob]
  show f_Tokens_addWord_h3 (29995 + 1) x (-8) v4 = _
  rw [f_Tokens_addWord_h3, if_pos (by decide)]
def Mpu (v w : jW) (n m : Nat) (g : Nat → Int32) : Prop := v.1 93 4 = nI (n + m) ∧ (∀ i, i < m → v.1 97 (n + i) = g i) ∧ (∀ k, k < n → v.1 97 k = w.1 97 k) ∧ (∀ b, b ≠ 93 → b ≠ 97 → v.1 b = w.1 b) ∧ ∀ j, j ≠ 4 → v.1 93 j = w.1 93 j
theorem Mpu_s {n m : Nat} {g : Nat → Int32} (h : Mpu v w n m g) : Mpu (jup (jup v.1 97 (n + m) (g m)) 93 4 (nI (n + m + 1)), v.2) w n (m + 1) g := by
  obtain ⟨h1, h2, h3, h4, h5⟩ := h
  refine ⟨by dsimp only; rw [jup_eq]; rfl, fun i hi => ?_, fun k hk => ?_, fun b q1 q2 => ?_, fun j q => ?_⟩
  · dsimp only
    rw [jup_ne (by omega), jup_ap]
    by_cases q : i = m
    · rw [if_pos ⟨rfl, by omega⟩, q]
    · rw [if_neg (by omega)]; exact h2 i (by omega)
  · dsimp only
    rw [jup_ne (by omega), jup_k (by omega)]; exact h3 k hk
  · dsimp only
    rw [jup_fn q1, jup_fn q2]; exact h4 b q1 q2
  · dsimp only
    rw [jup_k q, jup_ne (by omega)]; exact h5 j q
theorem m_four {n m : Nat} {g : Nat → Int32} {x : Int32} (h : Mpu v w n m g) (hm : n + m + 4 ≤ 300) (e0 : g m = byt x 24) (e1 : g (m + 1) = byt x 16) (e2 : g (m + 2) = byt x 8) (e3 : g (m + 3) = byt x 0) : ∃ v', f_Model_four x v = some v' ∧ Mpu v' w n (m + 4) g := by
  have st : ∀ (f : Nat) (s s' : Int32) (m : Nat) (v : jW), Mpu v w n m g → n + m < 300 → ¬ s < 0 → s + (-8) = s' → g m = byt x s → f_Model_four_h3 (f + 1) x s v = f_Model_four_h3 f x s' (jup (jup v.1 97 (n + m) (g m)) 93 4 (nI (n + m + 1)), v.2) := fun f s s' m v hv hm hs hs' hg => by
    rw [f_Model_four_h3, if_neg hs, hv.1, jal_c, jin_nI (by omega) (by omega), if_pos (show (true && jal []) = true from rfl), jlw_e, jlw_e, nI_clamp (by omega), hs', hg, byt]
    dsimp only
    rw [jup_ne (by omega), hv.1, ip_1]
  have h1 := Mpu_s h
  have h2 := Mpu_s h1
  have h3 := Mpu_s h2
  have h4 := Mpu_s h3
  refine ⟨_, ?_, h4⟩
  rw [f_Model_four, show jfu = 29995 + 1 + 1 + 1 + 1 + 1 from rfl, st _ 24 16 m v h (by omega) (by decide) (by decide) e0, st _ 16 8 (m + 1) _ h1 (by omega) (by decide) (by decide) e1, st _ 8 0 (m + 1 + 1) _ h2 (by omega) (by decide) (by decide) e2, st _ 0 (-8) (m + 1 + 1 + 1) _ h3 (by omega) (by decide) (by decide) e3, f_Model_four_h3, if_pos (by decide)]
theorem q_feed (h : Inv w c ci K) (hK : K < 512) (x1 x2 x3 x4 x5 : Int32) : Cal w (K + 1) (f_Count_feed x1 x2 x3 x4 x5) (f_Model_feed x1 x2 x3 x4 x5) := by
  obtain ⟨i1, i2, i3, i4⟩ := id (Inv_K h (Nat.le_succ K) (by omega))
  obtain ⟨n, m1, m2, m3, t1, t2, t3, t4, t5, t6⟩ := id i3
  have hn := t1.2.2.1
  by_cases q : n + 20 ≤ 300
  rotate_left
  · have q' : ¬ nI n + 20 ≤ 300 := by
      rw [show (20 : Int32) = nI 20 from rfl, nI_add]
      exact nI_ge (a := 300) (by omega) (by omega)
    refine Cal_f (x := -1) h hK ?_ ?_
    · rw [f_Count_feed, r_count t1, ob]
      dsimp only
      rw [if_neg q']
    · rw [f_Model_feed, t5, if_neg q']
  have q' : nI n + 20 ≤ 300 := by
    rw [show (20 : Int32) = nI 20 from rfl, nI_add]
    exact nI_le (b := 300) q (by omega)
  obtain ⟨g, hg⟩ : ∃ g : Nat → Int32, g = fun i => byt (if i < 4 then x1 else if i < 8 then x2 else if i < 12 then x3 else if i < 16 then x4 else x5) (if i % 4 = 0 then 24 else if i % 4 = 1 then 16 else if i % 4 = 2 then 8 else 0) := ⟨_, rfl⟩
  have C0 : Cpu w w n 0 g := ⟨t1, fun i hi => absurd hi (Nat.not_lt_zero i), fun _ _ => rfl, fun _ _ _ => rfl⟩
  obtain ⟨v1, a1, C1⟩ := c_addWord (x := x1) C0 (by omega) (by rw [hg]; rfl) (by rw [hg]; rfl) (by rw [hg]; rfl) (by rw [hg]; rfl)
  obtain ⟨v2, a2, C2⟩ := c_addWord (x := x2) C1 (by omega) (by rw [hg]; rfl) (by rw [hg]; rfl) (by rw [hg]; rfl) (by rw [hg]; rfl)
  obtain ⟨v3, a3, C3⟩ := c_addWord (x := x3) C2 (by omega) (by rw [hg]; rfl) (by rw [hg]; rfl) (by rw [hg]; rfl) (by rw [hg]; rfl)
  obtain ⟨v4, a4, C4⟩ := c_addWord (x := x4) C3 (by omega) (by rw [hg]; rfl) (by rw [hg]; rfl) (by rw [hg]; rfl) (by rw [hg]; rfl)
  obtain ⟨v5, a5, C5⟩ := c_addWord (x := x5) C4 (by omega) (by rw [hg]; rfl) (by rw [hg]; rfl) (by rw [hg]; rfl) (by rw [hg]; rfl)
  have M0 : Mpu v5 v5 n 0 g := ⟨by rw [C5.2.2.2 93 (by omega) (by omega)]; exact t5, fun i hi => absurd hi (Nat.not_lt_zero i), fun _ _ => rfl, fun _ _ _ => rfl, fun _ _ => rfl⟩
  obtain ⟨u1, b1, M1⟩ := m_four (x := x1) M0 (by omega) (by rw [hg]; rfl) (by rw [hg]; rfl) (by rw [hg]; rfl) (by rw [hg]; rfl)
  obtain ⟨u2, b2, M2⟩ := m_four (x := x2) M1 (by omega) (by rw [hg]; rfl) (by rw [hg]; rfl) (by rw [hg]; rfl) (by rw [hg]; rfl)
  obtain ⟨u3, b3, M3⟩ := m_four (x := x3) M2 (by omega) (by rw [hg]; rfl) (by rw [hg]; rfl) (by rw [hg]; rfl) (by rw [hg]; rfl)
  obtain ⟨u4, b4, M4⟩ := m_four (x := x4) M3 (by omega) (by rw [hg]; rfl) (by rw [hg]; rfl) (by rw [hg]; rfl) (by rw [hg]; rfl)
  obtain ⟨u5, b5, M5⟩ := m_four (x := x5) M4 (by omega) (by rw [hg]; rfl) (by rw [hg]; rfl) (by rw [hg]; rfl) (by rw [hg]; rfl)
  have fr : ∀ b, b ≠ 79 → b ≠ 80 → b ≠ 93 → b ≠ 97 → u5.1 b = w.1 b := fun b q1 q2 q3 q4 => (M5.2.2.2.1 b q3 q4).trans (C5.2.2.2 b q1 q2)
  have f93 : ∀ j, j ≠ 4 → u5.1 93 j = w.1 93 j := fun j q => (M5.2.2.2.2 j q).trans (congrFun (C5.2.2.2 93 (by omega) (by omega)) j)
  refine ⟨nI (n + 20), v5, u5, c, ci, ?_, ?_, ?_, ?_, ⟨n + 20, m1, m2, m3, ?_, ?_, ?_, ?_, M5.1, ?_⟩, ?_⟩
  · rw [f_Count_feed, r_count t1, ob]
    dsimp only
    rw [if_pos q', a1, ob, a2, ob, a3, ob, a4, ob, a5, ob, r_count C5.1, ob]
  · rw [f_Model_feed, C5.2.2.2 93 (by omega) (by omega), t5, if_pos q', b1, ob, b2, ob, b3, ob, b4, ob, b5, ob, M5.1]
  · rw [fr 94 (by omega) (by omega) (by omega) (by omega)]; exact RA_fr i1 (fun b q1 q2 _ => fr b (by omega) (by omega) (by omega) (by omega))
  · rw [fr 95 (by omega) (by omega) (by omega) (by omega)]; exact RA_38 i2 (fun b q1 q2 => fr b (by omega) (by omega) (by omega) (by omega))
  · exact JR_eq C5.1 (M5.2.2.2.1 79 (by omega) (by omega))
  · exact JR_eq t2 (fr 74 (by omega) (by omega) (by omega) (by omega))
  · exact JR_eq t3 (fr 76 (by omega) (by omega) (by omega) (by omega))
  · exact JR_eq t4 (fr 81 (by omega) (by omega) (by omega) (by omega))
  · intro k hk
    rw [M5.2.2.2.1 80 (by omega) (by omega)]
    by_cases z : k < n
    · rw [C5.2.2.1 k z, M5.2.2.1 k z, C5.2.2.2 97 (by omega) (by omega)]
      exact t6 k z
    · have e := C5.2.1 (k - n) (by omega)
      have e' := M5.2.1 (k - n) (by omega)
      rw [show n + (k - n) = k by omega] at e e'
      rw [e, e']
      refine ⟨rfl, ?_⟩
      rw [hg]
      exact and255 _
  · exact Rft_fr i4 (fr 73 (by omega) (by omega) (by omega) (by omega)) (f93 5 (by omega)) (f93 6 (by omega))

end Q8

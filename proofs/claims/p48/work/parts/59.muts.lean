/-! LAYER B: the image; feed -/
section Q8
variable {w v : jW} {A : Nat → Int32} {c ci : Nat → Nat} {K : Nat}

/-- is a cell a table's own -/
def hdr (b : Nat) : Bool := ([4, 6, 8, 10, 12, 14, 17, 19, 21, 24, 26, 28, 30, 32, 34, 36, 39, 41, 43, 45, 47, 49, 52, 54, 56, 59, 61, 63, 65, 67, 69, 71] : List Nat).elem b
/-- the world with the references' idle numbers away -/
def nrm (w : jW) : jW := (fun b j => if hdr b = true then (if j = 1 then 0 else w.1 b j) else w.1 b j, w.2)
theorem nrm_JR {R W cap n : Nat} : JR (nrm w) R W cap n ↔ JR w R W cap n := by
  have e0 : (nrm w).1 R 0 = w.1 R 0 := by
    show (if hdr R = true then (if 0 = 1 then 0 else w.1 R 0) else w.1 R 0) = _
    split
    · rw [if_neg (by decide)]
    · rfl
  have e2 : (nrm w).1 R 2 = w.1 R 2 := by
    show (if hdr R = true then (if 2 = 1 then 0 else w.1 R 2) else w.1 R 2) = _
    split
    · rw [if_neg (by decide)]
    · rfl
  unfold JR
  rw [e0, e2]
theorem nrm_RT {R W cap cnt base st : Nat} {cm : Nat → Nat} (h : hdr (R + 1) = false) : RT (nrm w) R W cap A cnt base st cm ↔ RT w R W cap A cnt base st cm := by
  unfold RT
  simp only [nrm_JR]
  have e : ∀ j, (nrm w).1 (R + 1) j = w.1 (R + 1) j := fun j => by
    show (if hdr (R + 1) = true then _ else _) = _
    rw [h]; rfl
  simp only [e]
theorem nrm_ne {b j : Nat} (h : hdr b = false) : (nrm w).1 b j = w.1 b j := by
  show (if hdr b = true then _ else _) = _
  rw [h]; rfl
theorem nrm_RA {b : Nat} (hb : b = 3 ∨ b = 38) : RA (nrm w) b A c K ↔ RA w b A c K := by
  have hh : ∀ o, o = 0 ∨ o = 2 ∨ o = 4 ∨ o = 6 ∨ o = 8 ∨ o = 10 ∨ o = 12 ∨ o = 15 ∨ o = 17 ∨ o = 19 ∨ o = 22 ∨ o = 24 ∨ o = 26 ∨ o = 28 ∨ o = 30 ∨ o = 32 ∨ o = 34 → hdr (b + o) = false := fun o ho => by
    rcases hb with rfl | rfl
    · rcases ho with rfl | rfl | rfl | rfl | rfl | rfl | rfl | rfl | rfl | rfl | rfl | rfl | rfl | rfl | rfl | rfl | rfl <;> rfl
    · rcases ho with rfl | rfl | rfl | rfl | rfl | rfl | rfl | rfl | rfl | rfl | rfl | rfl | rfl | rfl | rfl | rfl | rfl <;> rfl
  have e : ∀ o, o = 0 ∨ o = 2 ∨ o = 4 ∨ o = 6 ∨ o = 8 ∨ o = 10 ∨ o = 12 ∨ o = 15 ∨ o = 17 ∨ o = 19 ∨ o = 22 ∨ o = 24 ∨ o = 26 ∨ o = 28 ∨ o = 30 ∨ o = 32 ∨ o = 34 → ∀ j, (nrm w).1 (b + o) j = w.1 (b + o) j := fun o ho j => nrm_ne (hh o ho)
  have e0 : ∀ j, (nrm w).1 b j = w.1 b j := fun j => e 0 (by omega) j
  have r1 : Rscal (nrm w) b A ↔ Rscal w b A := by unfold Rscal; simp only [e0]
  have r2 : Rsort (nrm w) b A ↔ Rsort w b A := by unfold Rsort; simp only [nrm_JR, e 2 (by omega)]
  have r3 : Rsite (nrm w) b A ↔ Rsite w b A := nrm_RT (hh 4 (by omega))
  have r4 : Rthing (nrm w) b A ↔ Rthing w b A := nrm_RT (hh 8 (by omega))
  have r5 : Rmove (nrm w) b A ↔ Rmove w b A := nrm_RT (hh 10 (by omega))
  have r6 : Rseal (nrm w) b A ↔ Rseal w b A := nrm_RT (hh 12 (by omega))
  have r7 : Rtold (nrm w) b A ↔ Rtold w b A := nrm_RT (hh 22 (by omega))
  have r8 : Rvis (nrm w) b A ↔ Rvis w b A := nrm_RT (hh 24 (by omega))
  have r9 : Rpic (nrm w) b A ↔ Rpic w b A := nrm_RT (hh 26 (by omega))
  have r10 : Rque (nrm w) b A ↔ Rque w b A := nrm_RT (hh 28 (by omega))
  have r11 : Ract (nrm w) b A ↔ Ract w b A := nrm_RT (hh 30 (by omega))
  have r12 : Rcld (nrm w) b A ↔ Rcld w b A := nrm_RT (hh 32 (by omega))
  have r13 : Rwat (nrm w) b A ↔ Rwat w b A := nrm_RT (hh 34 (by omega))
  have r14 : Rchain (nrm w) b A ↔ Rchain w b A := by unfold Rchain; simp only [e 8 (by omega), e 10 (by omega)]
  have r15 : Rvis2 (nrm w) b A c ↔ Rvis2 w b A c := by unfold Rvis2; simp only [e 24 (by omega)]
  have r16 : Ract2 (nrm w) b A c ↔ Ract2 w b A c := by unfold Ract2; simp only [e 30 (by omega)]
  have r17 : Rway (nrm w) b A c ↔ Rway w b A c := by unfold Rway; simp only [nrm_JR, e 6 (by omega)]
  have r18 : Rtext (nrm w) b A c ↔ Rtext w b A c := by
    have f19 : (nrm w).1 (b + 19) = w.1 (b + 19) := funext (e 19 (by omega))
    unfold Rtext Rtx Rcl Rcnd
    simp only [nrm_JR, e 15 (by omega), e 17 (by omega), f19]
  unfold RA RR
  rw [r1, r2, r3, r4, r5, r6, r7, r8, r9, r10, r11, r12, r13, r14, r15, r16, r17, r18]
def okl : List Nat → Prop
  | [] => True
  | o :: l => (∀ x ∈ l, o + 1 < x) ∧ okl l
def TL : List Nat := [1, 3, 5, 7, 9, 11, 14, 16, 18, 21, 23, 25, 27, 29, 31, 33]
/-- the tables' widths are what they are -/
def wid (x : Nat) : Nat := if x = 1 then 4 else if x = 3 then 5 else if x = 5 then 10 else if x = 7 then 11 else if x = 9 then 6 else if x = 11 then 2 else if x = 14 then 4 else if x = 16 then 4 else if x = 18 then 1 else if x = 21 then 4 else if x = 23 then 10 else if x = 25 then 3 else if x = 27 then 3 else if x = 29 then 5 else if x = 31 then 2 else if x = 33 then 2 else 0
theorem widths {b : Nat} (H : RA w b A c K) : ∀ x ∈ TL, w.1 (b + x) 0 = nI (wid x) := by
  intro x hx
  unfold TL at hx
  simp only [List.mem_cons, List.not_mem_nil, or_false] at hx
  rcases hx with rfl | rfl | rfl | rfl | rfl | rfl | rfl | rfl | rfl | rfl | rfl | rfl | rfl | rfl | rfl | rfl
  · exact (p_Rsort H).1.1
  · exact (show w.1 (b + 3) 0 = nI 5 from by obtain ⟨n, q1, q2, q3⟩ := p_Rsite H; exact q2.1)
  · exact (p_Rway H).1.1
  · exact (show w.1 (b + 7) 0 = nI 11 from by obtain ⟨n, q1, q2, q3⟩ := p_Rthing H; exact q2.1)
  · exact (show w.1 (b + 9) 0 = nI 6 from by obtain ⟨n, q1, q2, q3⟩ := p_Rmove H; exact q2.1)
  · exact (show w.1 (b + 11) 0 = nI 2 from by obtain ⟨n, q1, q2, q3⟩ := p_Rseal H; exact q2.1)
  · exact (show w.1 (b + 14) 0 = nI 4 from by obtain ⟨cs, ks, j1, j2, j3, -⟩ := p_Rtext H; exact j1.1)
  · exact (show w.1 (b + 16) 0 = nI 4 from by obtain ⟨cs, ks, j1, j2, j3, -⟩ := p_Rtext H; exact j2.1)
  · exact (show w.1 (b + 18) 0 = nI 1 from by obtain ⟨cs, ks, j1, j2, j3, -⟩ := p_Rtext H; exact j3.1)
  · exact (show w.1 (b + 21) 0 = nI 4 from by obtain ⟨n, q1, q2, q3⟩ := p_Rtold H; exact q2.1)
  · exact (show w.1 (b + 23) 0 = nI 10 from by obtain ⟨n, q1, q2, q3⟩ := p_Rvis H; exact q2.1)
  · exact (show w.1 (b + 25) 0 = nI 3 from by obtain ⟨n, q1, q2, q3⟩ := p_Rpic H; exact q2.1)
  · exact (show w.1 (b + 27) 0 = nI 3 from by obtain ⟨n, q1, q2, q3⟩ := p_Rque H; exact q2.1)
  · exact (show w.1 (b + 29) 0 = nI 5 from by obtain ⟨n, q1, q2, q3⟩ := p_Ract H; exact q2.1)
  · exact (show w.1 (b + 31) 0 = nI 2 from by obtain ⟨n, q1, q2, q3⟩ := p_Rcld H; exact q2.1)
  · exact (show w.1 (b + 33) 0 = nI 2 from by obtain ⟨n, q1, q2, q3⟩ := p_Rwat H; exact q2.1)
theorem RA_cp {a a' : Nat} {v : jW} {ca : Nat → Nat} {A' : Nat → Int32} (ha : a = 3 ∧ a' = 38 ∨ a = 38 ∧ a' = 3) (H : RA w a' A c K) (Ho : RA w a A' ca K) (h1 : ∀ j, j < 5 → v.1 a j = w.1 a' j) (h2 : ∀ x ∈ TL, v.1 (a + x) 2 = w.1 (a' + x) 2 ∧ ∀ j, j < wl (x + 1) → v.1 (a + x + 1) j = w.1 (a' + x + 1) j) (h3 : ∀ b j, ¬ (b = a ∧ j < 5) → (∀ x ∈ TL, ¬ (b = a + x ∧ j = 2) ∧ b ≠ a + x + 1) → v.1 b j = w.1 b j) : RA v a A c K := by
  have ha1 : a = 3 ∨ a = 38 := by omega
  have ha2 : a' = 3 ∨ a' = 38 := by omega
  have hK := (l_K H).2
  have TLn : ∀ x ∈ TL, ∀ y ∈ TL, a + x ≠ a + y + 1 := by
    intro x hx y hy
    unfold TL at hx hy
    simp only [List.mem_cons, List.not_mem_nil, or_false] at hx hy
    omega
  have TLb : ∀ x ∈ TL, 1 ≤ x ∧ x ≤ 33 := by
    intro x hx
    unfold TL at hx
    simp only [List.mem_cons, List.not_mem_nil, or_false] at hx
    omega
  refine (nrm_RA ha1).mp (RA_tr ((nrm_RA ha2).mpr H) ha1 (fun o j q1 q2 q3 => ?_) (fun _ _ => rfl) (Nat.le_refl _) hK)
  have hH : ∀ x ∈ TL, hdr (a + x) = true ∧ hdr (a' + x) = true ∧ hdr (a + x + 1) = false ∧ hdr (a' + x + 1) = false := by
    intro x hx
    unfold TL at hx
    simp only [List.mem_cons, List.not_mem_nil, or_false] at hx
    rcases ha with ⟨rfl, rfl⟩ | ⟨rfl, rfl⟩
    · rcases hx with rfl | rfl | rfl | rfl | rfl | rfl | rfl | rfl | rfl | rfl | rfl | rfl | rfl | rfl | rfl | rfl <;> decide
    · rcases hx with rfl | rfl | rfl | rfl | rfl | rfl | rfl | rfl | rfl | rfl | rfl | rfl | rfl | rfl | rfl | rfl <;> decide
  have ho : o = 0 ∨ o = 13 ∨ (o ∈ TL ∧ wl o = 3) ∨ ∃ x ∈ TL, o = x + 1 := by
    rcases (show o = 0 ∨ o = 1 ∨ o = 2 ∨ o = 3 ∨ o = 4 ∨ o = 5 ∨ o = 6 ∨ o = 7 ∨ o = 8 ∨ o = 9 ∨ o = 10 ∨ o = 11 ∨ o = 12 ∨ o = 13 ∨ o = 14 ∨ o = 15 ∨ o = 16 ∨ o = 17 ∨ o = 18 ∨ o = 19 ∨ o = 21 ∨ o = 22 ∨ o = 23 ∨ o = 24 ∨ o = 25 ∨ o = 26 ∨ o = 27 ∨ o = 28 ∨ o = 29 ∨ o = 30 ∨ o = 31 ∨ o = 32 ∨ o = 33 ∨ o = 34 by omega) with rfl | rfl | rfl | rfl | rfl | rfl | rfl | rfl | rfl | rfl | rfl | rfl | rfl | rfl | rfl | rfl | rfl | rfl | rfl | rfl | rfl | rfl | rfl | rfl | rfl | rfl | rfl | rfl | rfl | rfl | rfl | rfl | rfl | rfl
    · exact Or.inl rfl
    · exact Or.inr (Or.inr (Or.inl (by decide)))
    · exact Or.inr (Or.inr (Or.inr ⟨1, by decide, rfl⟩))
    · exact Or.inr (Or.inr (Or.inl (by decide)))
    · exact Or.inr (Or.inr (Or.inr ⟨3, by decide, rfl⟩))
    · exact Or.inr (Or.inr (Or.inl (by decide)))
    · exact Or.inr (Or.inr (Or.inr ⟨5, by decide, rfl⟩))
    · exact Or.inr (Or.inr (Or.inl (by decide)))
    · exact Or.inr (Or.inr (Or.inr ⟨7, by decide, rfl⟩))
    · exact Or.inr (Or.inr (Or.inl (by decide)))
    · exact Or.inr (Or.inr (Or.inr ⟨9, by decide, rfl⟩))
    · exact Or.inr (Or.inr (Or.inl (by decide)))
    · exact Or.inr (Or.inr (Or.inr ⟨11, by decide, rfl⟩))
    · exact Or.inr (Or.inl rfl)
    · exact Or.inr (Or.inr (Or.inl (by decide)))
    · exact Or.inr (Or.inr (Or.inr ⟨14, by decide, rfl⟩))
    · exact Or.inr (Or.inr (Or.inl (by decide)))
    · exact Or.inr (Or.inr (Or.inr ⟨16, by decide, rfl⟩))
    · exact Or.inr (Or.inr (Or.inl (by decide)))
    · exact Or.inr (Or.inr (Or.inr ⟨18, by decide, rfl⟩))
    · exact Or.inr (Or.inr (Or.inl (by decide)))
    · exact Or.inr (Or.inr (Or.inr ⟨21, by decide, rfl⟩))
    · exact Or.inr (Or.inr (Or.inl (by decide)))
    · exact Or.inr (Or.inr (Or.inr ⟨23, by decide, rfl⟩))
    · exact Or.inr (Or.inr (Or.inl (by decide)))
    · exact Or.inr (Or.inr (Or.inr ⟨25, by decide, rfl⟩))
    · exact Or.inr (Or.inr (Or.inl (by decide)))
    · exact Or.inr (Or.inr (Or.inr ⟨27, by decide, rfl⟩))
    · exact Or.inr (Or.inr (Or.inl (by decide)))
    · exact Or.inr (Or.inr (Or.inr ⟨29, by decide, rfl⟩))
    · exact Or.inr (Or.inr (Or.inl (by decide)))
    · exact Or.inr (Or.inr (Or.inr ⟨31, by decide, rfl⟩))
    · exact Or.inr (Or.inr (Or.inl (by decide)))
    · exact Or.inr (Or.inr (Or.inr ⟨33, by decide, rfl⟩))
  rcases ho with rfl | rfl | ⟨hx, hw3⟩ | ⟨x, hx, rfl⟩
  · have e0 : hdr (a + 0) = false ∧ hdr (a' + 0) = false := by
      rcases ha with ⟨rfl, rfl⟩ | ⟨rfl, rfl⟩ <;> decide
    rw [nrm_ne e0.1, nrm_ne e0.2]
    exact h1 j q3
  · exact absurd q3 (Nat.not_lt_zero j)
  · obtain ⟨k1, k2, -, -⟩ := hH o hx
    show (if hdr (a + o) = true then (if j = 1 then 0 else v.1 (a + o) j) else _) = (if hdr (a' + o) = true then (if j = 1 then 0 else w.1 (a' + o) j) else _)
    rw [if_pos k1, if_pos k2]
    by_cases z1 : j = 1
    · rw [if_pos z1, if_pos z1]
    · rw [if_neg z1, if_neg z1]
      by_cases z2 : j = 2
      · rw [z2]; exact (h2 o hx).1
      · have z0 : j = 0 := by omega
        have hb := TLb o hx
        rw [z0, h3 (a + o) 0 (by omega) (fun y hy => ⟨by omega, TLn o hx y hy⟩), widths Ho o hx, widths H o hx]
  · obtain ⟨-, -, k3, k4⟩ := hH x hx
    rw [nrm_ne (b := a + (x + 1)) k3, nrm_ne (b := a' + (x + 1)) k4]
    exact (h2 x hx).2 j q3
theorem RA_ext {b : Nat} {A' : Nat → Int32} (H : RA w b A c K) (hb : b = 3 ∨ b = 38) (h : ∀ k, k < 21000 → A' k = A k) : RA w b A' c K := RA_tr H hb (fun _ _ _ _ _ => rfl) h (Nat.le_refl _) (l_K H).2

def byt (x : Int32) (s : Int32) : Int32 := (x >>> (s &&& 31)) &&& 255
theorem and255 (z : Int32) : vb (z &&& 255) 0 255 := by
  refine ⟨(z.toBitVec &&& 255#32).toNat, ?_, Nat.zero_le _, ?_⟩
  · apply Int32.toBitVec_inj.mp
    show z.toBitVec &&& 255#32 = BitVec.ofNat 32 _
    rw [BitVec.ofNat_toNat]; simp
  · rw [BitVec.toNat_and]; exact Nat.and_le_right
def Cpu (v w : jW) (n m : Nat) (g : Nat → Int32) : Prop := JR v 79 1 300 (n + m) ∧ (∀ i, i < m → v.1 80 (n + i) = g i) ∧ (∀ k, k < n → v.1 80 k = w.1 80 k) ∧ ∀ b, b ≠ 79 → b ≠ 80 → v.1 b = w.1 b
theorem Cpu_s {n m : Nat} {g : Nat → Int32} (h : Cpu v w n m g) (hm : n + m < 300) : ∃ v', f_Rows_open 79 (g m) v = some (nI (n + m), v') ∧ Cpu v' w n (m + 1) g := by
  obtain ⟨h1, h2, h3, h4⟩ := h
  obtain ⟨v', e, a, J⟩ := ap_open h1 hm (g m)
  refine ⟨v', e, J, fun i hi => ?_, fun k hk => ?_, fun b q1 q2 => ?_⟩
  · by_cases q : i = m
    · have := a.2.1 0 (by omega)
      rw [show (n + m) * 1 + 0 = n + m by omega] at this
      rw [q]; exact this
    · rw [a.2.2 80 (n + i) (by omega)]; exact h2 i (by omega)
  · rw [a.2.2 80 k (by omega)]; exact h3 k hk
  · exact (Ap_fn a q1 q2).trans (h4 b q1 q2)
def Mpu (v w : jW) (n m : Nat) (g : Nat → Int32) : Prop := v.1 93 4 = nI (n + m) ∧ (∀ i, i < m → v.1 97 (n + i) = g i) ∧ (∀ k, k < n → v.1 97 k = w.1 97 k) ∧ (∀ b, b ≠ 93 → b ≠ 97 → v.1 b = w.1 b) ∧ ∀ j, j ≠ 4 → v.1 93 j = w.1 93 j
theorem Mpu_s {n m : Nat} {g : Nat → Int32} (h : Mpu v w n m g) : Mpu (jup (jup v.1 97 (n + m) (g m)) 93 4 (nI (n + m + 1)), v.2) w n (m + 1) g := by
  obtain ⟨h1, h2, h3, h4, h5⟩ := h
  refine ⟨by dsimp only; rw [jup_eq]; rfl, fun i hi => ?_, fun k hk => ?_, fun b q1 q2 => ?_, fun j q => ?_⟩
  · dsimp only
    rw [jup_ne (by omega), jup_ap]
    by_cases q : i = m
    · rw [if_pos ⟨rfl, by omega⟩, q]
    · rw [if_neg (by omega)]; exact h2 i (by omega)
  · dsimp only
    rw [jup_ne (by omega), jup_k (by omega)]; exact h3 k hk
  · dsimp only
    rw [jup_fn q1, jup_fn q2]; exact h4 b q1 q2
  · dsimp only
    rw [jup_k q, jup_ne (by omega)]; exact h5 j q
end Q8


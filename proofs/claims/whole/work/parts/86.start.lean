/-! LAYER B: the first world -/
section S0
def W0 : jW := jcpo tW243 94 95 0
theorem jWb_e : jWb = W0 := by
  have h1 := jZ32_ok
  rw [jcopy_ok _ (by decide +kernel) (by decide +kernel) (by decide)] at h1
  exact (Option.some.inj h1).symm
def c00 : Nat → Nat := fun _ => 0
theorem vac0 {p : Nat → Prop} : ∀ i, i < c00 0 → p i := fun i h => absurd h (Nat.not_lt_zero i)
theorem s_cnt94 : ∀ i, i < 14 → W0.1 94 i = nI 0 := by decide +kernel
theorem s_so94 : ∀ i, i < 4 → W0.1 94 (20 + 4 * i) = nI 1 ∧ W0.1 94 (20 + 4 * i + 1) = nI 200 ∧ W0.1 94 (20 + 4 * i + 2) = nI 1 ∧ W0.1 94 (20 + 4 * i + 3) = nI 500 := by decide +kernel
theorem s_th94 : ∀ t, t < 40 → W0.1 94 (240 + 12 * t + 6) = 0 := by decide +kernel
theorem s_r94 : ∀ i, i < 4 → ∀ j, j < 4 → W0.1 5 (i * 4 + j) = W0.1 94 (20 + 4 * i + j) := by decide +kernel
theorem s_IA94 : IA (W0.1 94) c00 0 := by
  refine ⟨s_cnt94, ?_, ?_, ?_, (fun i h => absurd h (Nat.not_lt_zero i)), (fun i h => absurd h (Nat.not_lt_zero i)), ⟨(fun i h => absurd h (Nat.not_lt_zero i)), fun t _ h => s_th94 t h⟩, (fun i h => absurd h (Nat.not_lt_zero i)), (fun i h => absurd h (Nat.not_lt_zero i)), (fun i h => absurd h (Nat.not_lt_zero i)), (fun i h => absurd h (Nat.not_lt_zero i)), (fun i h => absurd h (Nat.not_lt_zero i)), (fun i h => absurd h (Nat.not_lt_zero i)), (fun i h => absurd h (Nat.not_lt_zero i)), (fun i h => absurd h (Nat.not_lt_zero i)), (fun i h => absurd h (Nat.not_lt_zero i))⟩
  · unfold I1 c00; omega
  · exact ⟨⟨2, by decide +kernel, by omega, by omega⟩, ⟨5, by decide +kernel, by omega, by omega⟩, ⟨40, by decide +kernel, by omega, by omega⟩⟩
  · intro i hi
    obtain ⟨h1, h2, h3, h4⟩ := s_so94 i hi
    exact ⟨⟨1, h1, by omega, by omega⟩, ⟨200, h2, by omega, by omega⟩, ⟨1, h3, by omega, by omega⟩, ⟨500, h4, by omega, by omega⟩⟩
set_option maxRecDepth 20000 in
theorem s_RR94 : RR W0 3 (W0.1 94) c00 :=
  ⟨(by unfold Rscal; decide +kernel),
   ⟨(by unfold JR; decide +kernel : JR W0 4 4 4 4), fun i j hi hj => s_r94 i hi j hj⟩,
   ⟨0, s_cnt94 1 (by omega), (by unfold JR; decide +kernel : JR W0 6 5 10 0), fun i _ h => absurd h (Nat.not_lt_zero i)⟩,
   ⟨0, s_cnt94 3 (by omega), (by unfold JR; decide +kernel : JR W0 10 11 40 0), fun i _ h => absurd h (Nat.not_lt_zero i)⟩,
   ⟨0, s_cnt94 4 (by omega), (by unfold JR; decide +kernel : JR W0 12 6 100 0), fun i _ h => absurd h (Nat.not_lt_zero i)⟩,
   ⟨0, s_cnt94 5 (by omega), (by unfold JR; decide +kernel : JR W0 14 2 40 0), fun i _ h => absurd h (Nat.not_lt_zero i)⟩,
   ⟨0, s_cnt94 7 (by omega), (by unfold JR; decide +kernel : JR W0 24 4 200 0), fun i _ h => absurd h (Nat.not_lt_zero i)⟩,
   ⟨0, s_cnt94 8 (by omega), (by unfold JR; decide +kernel : JR W0 26 10 100 0), fun i _ h => absurd h (Nat.not_lt_zero i)⟩,
   ⟨0, s_cnt94 9 (by omega), (by unfold JR; decide +kernel : JR W0 28 3 100 0), fun i _ h => absurd h (Nat.not_lt_zero i)⟩,
   ⟨0, s_cnt94 10 (by omega), (by unfold JR; decide +kernel : JR W0 30 3 50 0), fun i _ h => absurd h (Nat.not_lt_zero i)⟩,
   ⟨0, s_cnt94 11 (by omega), (by unfold JR; decide +kernel : JR W0 32 5 512 0), fun i _ h => absurd h (Nat.not_lt_zero i)⟩,
   ⟨0, s_cnt94 12 (by omega), (by unfold JR; decide +kernel : JR W0 34 2 60 0), fun i _ h => absurd h (Nat.not_lt_zero i)⟩,
   ⟨0, s_cnt94 13 (by omega), (by unfold JR; decide +kernel : JR W0 36 2 60 0), fun i _ h => absurd h (Nat.not_lt_zero i)⟩,
   ⟨0, 0, s_cnt94 3 (by omega), s_cnt94 4 (by omega), by omega, by omega, (fun i h => absurd h (Nat.not_lt_zero i)), (fun i h => absurd h (Nat.not_lt_zero i))⟩,
   (fun i h => absurd h (Nat.not_lt_zero i)),
   (fun i _ _ h => absurd h (Nat.not_lt_zero i)),
   ⟨(by unfold JR; decide +kernel : JR W0 8 10 10 0), fun i _ h => absurd h (Nat.not_lt_zero i)⟩,
   ⟨0, 0, (by unfold JR; decide +kernel : JR W0 17 4 10 0), (by unfold JR; decide +kernel : JR W0 19 4 160 0), (by unfold JR; decide +kernel : JR W0 21 1 3000 0), by omega, by omega, (fun i h => absurd h (Nat.not_lt_zero i))⟩⟩
theorem s_cnt95 : ∀ i, i < 14 → W0.1 95 i = nI 0 := by decide +kernel
theorem s_so95 : ∀ i, i < 4 → W0.1 95 (20 + 4 * i) = nI 1 ∧ W0.1 95 (20 + 4 * i + 1) = nI 200 ∧ W0.1 95 (20 + 4 * i + 2) = nI 1 ∧ W0.1 95 (20 + 4 * i + 3) = nI 500 := by decide +kernel
theorem s_th95 : ∀ t, t < 40 → W0.1 95 (240 + 12 * t + 6) = 0 := by decide +kernel
theorem s_r95 : ∀ i, i < 4 → ∀ j, j < 4 → W0.1 40 (i * 4 + j) = W0.1 95 (20 + 4 * i + j) := by decide +kernel
theorem s_IA95 : IA (W0.1 95) c00 0 := by
  refine ⟨s_cnt95, ?_, ?_, ?_, (fun i h => absurd h (Nat.not_lt_zero i)), (fun i h => absurd h (Nat.not_lt_zero i)), ⟨(fun i h => absurd h (Nat.not_lt_zero i)), fun t _ h => s_th95 t h⟩, (fun i h => absurd h (Nat.not_lt_zero i)), (fun i h => absurd h (Nat.not_lt_zero i)), (fun i h => absurd h (Nat.not_lt_zero i)), (fun i h => absurd h (Nat.not_lt_zero i)), (fun i h => absurd h (Nat.not_lt_zero i)), (fun i h => absurd h (Nat.not_lt_zero i)), (fun i h => absurd h (Nat.not_lt_zero i)), (fun i h => absurd h (Nat.not_lt_zero i)), (fun i h => absurd h (Nat.not_lt_zero i))⟩
  · unfold I1 c00; omega
  · exact ⟨⟨2, by decide +kernel, by omega, by omega⟩, ⟨5, by decide +kernel, by omega, by omega⟩, ⟨40, by decide +kernel, by omega, by omega⟩⟩
  · intro i hi
    obtain ⟨h1, h2, h3, h4⟩ := s_so95 i hi
    exact ⟨⟨1, h1, by omega, by omega⟩, ⟨200, h2, by omega, by omega⟩, ⟨1, h3, by omega, by omega⟩, ⟨500, h4, by omega, by omega⟩⟩
set_option maxRecDepth 20000 in
theorem s_RR95 : RR W0 38 (W0.1 95) c00 :=
  ⟨(by unfold Rscal; decide +kernel),
   ⟨(by unfold JR; decide +kernel : JR W0 39 4 4 4), fun i j hi hj => s_r95 i hi j hj⟩,
   ⟨0, s_cnt95 1 (by omega), (by unfold JR; decide +kernel : JR W0 41 5 10 0), fun i _ h => absurd h (Nat.not_lt_zero i)⟩,
   ⟨0, s_cnt95 3 (by omega), (by unfold JR; decide +kernel : JR W0 45 11 40 0), fun i _ h => absurd h (Nat.not_lt_zero i)⟩,
   ⟨0, s_cnt95 4 (by omega), (by unfold JR; decide +kernel : JR W0 47 6 100 0), fun i _ h => absurd h (Nat.not_lt_zero i)⟩,
   ⟨0, s_cnt95 5 (by omega), (by unfold JR; decide +kernel : JR W0 49 2 40 0), fun i _ h => absurd h (Nat.not_lt_zero i)⟩,
   ⟨0, s_cnt95 7 (by omega), (by unfold JR; decide +kernel : JR W0 59 4 200 0), fun i _ h => absurd h (Nat.not_lt_zero i)⟩,
   ⟨0, s_cnt95 8 (by omega), (by unfold JR; decide +kernel : JR W0 61 10 100 0), fun i _ h => absurd h (Nat.not_lt_zero i)⟩,
   ⟨0, s_cnt95 9 (by omega), (by unfold JR; decide +kernel : JR W0 63 3 100 0), fun i _ h => absurd h (Nat.not_lt_zero i)⟩,
   ⟨0, s_cnt95 10 (by omega), (by unfold JR; decide +kernel : JR W0 65 3 50 0), fun i _ h => absurd h (Nat.not_lt_zero i)⟩,
   ⟨0, s_cnt95 11 (by omega), (by unfold JR; decide +kernel : JR W0 67 5 512 0), fun i _ h => absurd h (Nat.not_lt_zero i)⟩,
   ⟨0, s_cnt95 12 (by omega), (by unfold JR; decide +kernel : JR W0 69 2 60 0), fun i _ h => absurd h (Nat.not_lt_zero i)⟩,
   ⟨0, s_cnt95 13 (by omega), (by unfold JR; decide +kernel : JR W0 71 2 60 0), fun i _ h => absurd h (Nat.not_lt_zero i)⟩,
   ⟨0, 0, s_cnt95 3 (by omega), s_cnt95 4 (by omega), by omega, by omega, (fun i h => absurd h (Nat.not_lt_zero i)), (fun i h => absurd h (Nat.not_lt_zero i))⟩,
   (fun i h => absurd h (Nat.not_lt_zero i)),
   (fun i _ _ h => absurd h (Nat.not_lt_zero i)),
   ⟨(by unfold JR; decide +kernel : JR W0 43 10 10 0), fun i _ h => absurd h (Nat.not_lt_zero i)⟩,
   ⟨0, 0, (by unfold JR; decide +kernel : JR W0 52 4 10 0), (by unfold JR; decide +kernel : JR W0 54 4 160 0), (by unfold JR; decide +kernel : JR W0 56 1 3000 0), by omega, by omega, (fun i h => absurd h (Nat.not_lt_zero i))⟩⟩
theorem s_Rtp : Rtp W0 := ⟨0, 0, 0, 0, by unfold JR; decide +kernel, by unfold JR; decide +kernel, by unfold JR; decide +kernel, by unfold JR; decide +kernel, by decide +kernel, fun k h => absurd h (Nat.not_lt_zero k)⟩
theorem s_Rft : Rft W0 := Or.inl (by decide +kernel)
theorem Inv_0 : Inv jWb c00 c00 0 := by
  rw [jWb_e]
  exact ⟨⟨s_IA94, s_RR94⟩, ⟨s_IA95, s_RR95⟩, s_Rtp, s_Rft⟩
/-- the law answers 1, as soon as a text is read alike -/
theorem jpure_of (ht : Tx) : ∀ (Ls : Nat) (xs : Nat → Int32), Ls ≤ 4096 → ∃ w' : jW, f_Law_law_h18 xs Ls jfu 0 jWb = some (1, w') := fun Ls xs hL => by
  have := law_all ht (xs := xs) hL 512 0 jfu jWb c00 c00 (by omega) (by omega) (by unfold jfu; omega) Inv_0
  exact this
end S0

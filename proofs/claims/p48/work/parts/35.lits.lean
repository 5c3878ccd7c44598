/-! LAYER B: numbers with literals -/
theorem ia_1 (k : Nat) : (1 : Int32) + nI k = nI (1 + k) := nI_add 1 k
theorem ia_2 (k : Nat) : (2 : Int32) + nI k = nI (2 + k) := nI_add 2 k
theorem ia_3 (k : Nat) : (3 : Int32) + nI k = nI (3 + k) := nI_add 3 k
theorem ia_4 (k : Nat) : (4 : Int32) + nI k = nI (4 + k) := nI_add 4 k
theorem ia_5 (k : Nat) : (5 : Int32) + nI k = nI (5 + k) := nI_add 5 k
theorem ia_6 (k : Nat) : (6 : Int32) + nI k = nI (6 + k) := nI_add 6 k
theorem ia_7 (k : Nat) : (7 : Int32) + nI k = nI (7 + k) := nI_add 7 k
theorem ia_8 (k : Nat) : (8 : Int32) + nI k = nI (8 + k) := nI_add 8 k
theorem ia_9 (k : Nat) : (9 : Int32) + nI k = nI (9 + k) := nI_add 9 k
theorem ia_20 (k : Nat) : (20 : Int32) + nI k = nI (20 + k) := nI_add 20 k
theorem ia_40 (k : Nat) : (40 : Int32) + nI k = nI (40 + k) := nI_add 40 k
theorem ia_120 (k : Nat) : (120 : Int32) + nI k = nI (120 + k) := nI_add 120 k
theorem ia_140 (k : Nat) : (140 : Int32) + nI k = nI (140 + k) := nI_add 140 k
theorem ia_240 (k : Nat) : (240 : Int32) + nI k = nI (240 + k) := nI_add 240 k
theorem ia_720 (k : Nat) : (720 : Int32) + nI k = nI (720 + k) := nI_add 720 k
theorem ia_1520 (k : Nat) : (1520 : Int32) + nI k = nI (1520 + k) := nI_add 1520 k
theorem ia_1680 (k : Nat) : (1680 : Int32) + nI k = nI (1680 + k) := nI_add 1680 k
theorem ia_9680 (k : Nat) : (9680 : Int32) + nI k = nI (9680 + k) := nI_add 9680 k
theorem ia_11280 (k : Nat) : (11280 : Int32) + nI k = nI (11280 + k) := nI_add 11280 k
theorem ia_12480 (k : Nat) : (12480 : Int32) + nI k = nI (12480 + k) := nI_add 12480 k
theorem ia_12880 (k : Nat) : (12880 : Int32) + nI k = nI (12880 + k) := nI_add 12880 k
theorem ia_13080 (k : Nat) : (13080 : Int32) + nI k = nI (13080 + k) := nI_add 13080 k
theorem ia_20760 (k : Nat) : (20760 : Int32) + nI k = nI (20760 + k) := nI_add 20760 k
theorem ia_20880 (k : Nat) : (20880 : Int32) + nI k = nI (20880 + k) := nI_add 20880 k
theorem ip_1 (k : Nat) : nI k + (1 : Int32) = nI (k + 1) := nI_add k 1
theorem ip_2 (k : Nat) : nI k + (2 : Int32) = nI (k + 2) := nI_add k 2
theorem ip_3 (k : Nat) : nI k + (3 : Int32) = nI (k + 3) := nI_add k 3
theorem ip_4 (k : Nat) : nI k + (4 : Int32) = nI (k + 4) := nI_add k 4
theorem ip_5 (k : Nat) : nI k + (5 : Int32) = nI (k + 5) := nI_add k 5
theorem ip_6 (k : Nat) : nI k + (6 : Int32) = nI (k + 6) := nI_add k 6
theorem ip_7 (k : Nat) : nI k + (7 : Int32) = nI (k + 7) := nI_add k 7
theorem ip_8 (k : Nat) : nI k + (8 : Int32) = nI (k + 8) := nI_add k 8
theorem ip_9 (k : Nat) : nI k + (9 : Int32) = nI (k + 9) := nI_add k 9
theorem ip_140 (k : Nat) : nI k + (140 : Int32) = nI (k + 140) := nI_add k 140
theorem ip_0 (k : Nat) : nI k + (0 : Int32) = nI k := nI_add k 0
theorem im_2 (k : Nat) : (2 : Int32) * nI k = nI (2 * k) := nI_mul 2 k
theorem im_4 (k : Nat) : (4 : Int32) * nI k = nI (4 * k) := nI_mul 4 k
theorem im_8 (k : Nat) : (8 : Int32) * nI k = nI (8 * k) := nI_mul 8 k
theorem im_12 (k : Nat) : (12 : Int32) * nI k = nI (12 * k) := nI_mul 12 k
theorem im_800 (k : Nat) : (800 : Int32) * nI k = nI (800 * k) := nI_mul 800 k
theorem b2_z {p : Prop} [Decidable p] : (b2 p = 0) ↔ ¬ p := by rw [b2_0]
theorem il_0 {n : Nat} (h : n < 2 ^ 31) : (nI n < 0) = False := propext ⟨fun q => nI_pos h q, False.elim⟩
theorem ii_lt {a b : Nat} (ha : a < 2 ^ 31) (hb : b < 2 ^ 31) : (nI a < nI b) = (a < b) := propext (nI_ltI ha hb)
theorem ii_le {a b : Nat} (ha : a < 2 ^ 31) (hb : b < 2 ^ 31) : (nI a ≤ nI b) = (a ≤ b) := propext (nI_leI ha hb)
theorem ii_eq {a b : Nat} (ha : a < 2 ^ 31) (hb : b < 2 ^ 31) : (nI a = nI b) = (a = b) := propext (nI_eq ha hb)
theorem ii_m1 {a : Nat} (ha : a < 2 ^ 31) : (nI a = -1) = False := propext ⟨fun q => nI_ne_m1 ha q, False.elim⟩
theorem im1_0 : ((-1 : Int32) < 0) = True := by decide
theorem m1_add (n : Nat) : nI (n + 1) + (-1) = nI n := by rw [← Int32.sub_eq_add_neg]; exact nI_pred n


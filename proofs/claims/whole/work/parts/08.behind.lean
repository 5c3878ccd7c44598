/-! THE WORLD BEHIND THE CONSTRUCTORS: 100 cells, their kinds, lengths, references (a run of the listing gave the numbers; the constructors' own contracts prove them) -/
def jk0l : List Nat := [99, 99, 9, 6, 3, 20, 3, 20, 3, 20, 3, 20, 3, 20, 3, 20, 8, 3, 20, 3, 20, 3, 20, 20, 3, 20, 3, 20, 3, 20, 3, 20, 3, 20, 3, 20, 3, 20, 6, 3, 20, 3, 20, 3, 20, 3, 20, 3, 20, 3, 20, 8, 3, 20, 3, 20, 3, 20, 20, 3, 20, 3, 20, 3, 20, 3, 20, 3, 20, 3, 20, 3, 20, 2, 3, 20, 3, 20, 7, 3, 20, 3, 20, 1, 22, 20, 0, 5, 20, 20, 4, 21, 21, 10, 20, 20, 20, 20, 20, 20, 21, 20]
def jl0l : List Nat := [0, 0, 0, 0, 0, 16, 0, 50, 0, 100, 0, 440, 0, 600, 0, 80, 0, 0, 40, 0, 640, 0, 3000, 5, 0, 800, 0, 1000, 0, 300, 0, 150, 0, 2560, 0, 120, 0, 120, 0, 0, 16, 0, 50, 0, 100, 0, 440, 0, 600, 0, 80, 0, 0, 40, 0, 640, 0, 3000, 5, 0, 800, 0, 1000, 0, 300, 0, 150, 0, 2560, 0, 120, 0, 120, 0, 0, 64, 0, 300, 0, 0, 300, 0, 903, 0, 4, 40, 0, 0, 5, 5, 0, 10, 300, 0, 21000, 21000, 10, 300, 160, 320, 320, 5]
def jr0l : List (List Nat) := [[], [], [3, 38, 73, 83, 86, 87, 90], [0, 0, 0, 0, 0, 4, 6, 8, 10, 12, 14, 16, 24, 26, 28, 30, 32, 34, 36], [0, 5, 0], [], [0, 7, 0], [], [0, 9, 0], [], [0, 11, 0], [], [0, 13, 0], [], [0, 15, 0], [], [17, 19, 21, 23], [0, 18, 0], [], [0, 20, 0], [], [0, 22, 0], [], [], [0, 25, 0], [], [0, 27, 0], [], [0, 29, 0], [], [0, 31, 0], [], [0, 33, 0], [], [0, 35, 0], [], [0, 37, 0], [], [0, 0, 0, 0, 0, 39, 41, 43, 45, 47, 49, 51, 59, 61, 63, 65, 67, 69, 71], [0, 40, 0], [], [0, 42, 0], [], [0, 44, 0], [], [0, 46, 0], [], [0, 48, 0], [], [0, 50, 0], [], [52, 54, 56, 58], [0, 53, 0], [], [0, 55, 0], [], [0, 57, 0], [], [], [0, 60, 0], [], [0, 62, 0], [], [0, 64, 0], [], [0, 66, 0], [], [0, 68, 0], [], [0, 70, 0], [], [0, 72, 0], [], [74, 76, 0, 0, 0, 78, 81, 0], [0, 75, 0], [], [0, 77, 0], [], [79, 81, 0], [0, 80, 0], [], [0, 82, 0], [], [84, 85], [], [], [0, 0, 0], [88, 89, 0, 0, 0, 0], [], [], [91, 92, 0, 0, 0, 0], [], [], [94, 95, 96, 97, 0, 0, 0, 0, 0, 0, 0, 0, 0, 0, 0, 0, 0, 98, 99, 100, 0, 0, 101, 0, 0, 0], [], [], [], [], [], [], [], []]
def jR0 : jS := (100, fun a => jk0l.getD a 99, fun a => jl0l.getD a 0, fun a k => (jr0l.getD a []).getD k 0)
theorem kz_2 : jSk jR0 2 = 9 := rfl
theorem kz_3 : jSk jR0 3 = 6 := rfl
theorem kz_4 : jSk jR0 4 = 3 := rfl
theorem kz_5 : jSk jR0 5 = 20 := rfl
theorem kz_6 : jSk jR0 6 = 3 := rfl
theorem kz_7 : jSk jR0 7 = 20 := rfl
theorem kz_8 : jSk jR0 8 = 3 := rfl
theorem kz_9 : jSk jR0 9 = 20 := rfl
theorem kz_10 : jSk jR0 10 = 3 := rfl
theorem kz_11 : jSk jR0 11 = 20 := rfl
theorem kz_12 : jSk jR0 12 = 3 := rfl
theorem kz_13 : jSk jR0 13 = 20 := rfl
theorem kz_14 : jSk jR0 14 = 3 := rfl
theorem kz_15 : jSk jR0 15 = 20 := rfl
theorem kz_16 : jSk jR0 16 = 8 := rfl
theorem kz_17 : jSk jR0 17 = 3 := rfl
theorem kz_18 : jSk jR0 18 = 20 := rfl
theorem kz_19 : jSk jR0 19 = 3 := rfl
theorem kz_20 : jSk jR0 20 = 20 := rfl
theorem kz_21 : jSk jR0 21 = 3 := rfl
theorem kz_22 : jSk jR0 22 = 20 := rfl
theorem kz_23 : jSk jR0 23 = 20 := rfl
theorem kz_24 : jSk jR0 24 = 3 := rfl
theorem kz_25 : jSk jR0 25 = 20 := rfl
theorem kz_26 : jSk jR0 26 = 3 := rfl
theorem kz_27 : jSk jR0 27 = 20 := rfl
theorem kz_28 : jSk jR0 28 = 3 := rfl
theorem kz_29 : jSk jR0 29 = 20 := rfl
theorem kz_30 : jSk jR0 30 = 3 := rfl
theorem kz_31 : jSk jR0 31 = 20 := rfl
theorem kz_32 : jSk jR0 32 = 3 := rfl
theorem kz_33 : jSk jR0 33 = 20 := rfl
theorem kz_34 : jSk jR0 34 = 3 := rfl
theorem kz_35 : jSk jR0 35 = 20 := rfl
theorem kz_36 : jSk jR0 36 = 3 := rfl
theorem kz_37 : jSk jR0 37 = 20 := rfl
theorem kz_38 : jSk jR0 38 = 6 := rfl
theorem kz_39 : jSk jR0 39 = 3 := rfl
theorem kz_40 : jSk jR0 40 = 20 := rfl
theorem kz_41 : jSk jR0 41 = 3 := rfl
theorem kz_42 : jSk jR0 42 = 20 := rfl
theorem kz_43 : jSk jR0 43 = 3 := rfl
theorem kz_44 : jSk jR0 44 = 20 := rfl
theorem kz_45 : jSk jR0 45 = 3 := rfl
theorem kz_46 : jSk jR0 46 = 20 := rfl
theorem kz_47 : jSk jR0 47 = 3 := rfl
theorem kz_48 : jSk jR0 48 = 20 := rfl
theorem kz_49 : jSk jR0 49 = 3 := rfl
theorem kz_50 : jSk jR0 50 = 20 := rfl
theorem kz_51 : jSk jR0 51 = 8 := rfl
theorem kz_52 : jSk jR0 52 = 3 := rfl
theorem kz_53 : jSk jR0 53 = 20 := rfl
theorem kz_54 : jSk jR0 54 = 3 := rfl
theorem kz_55 : jSk jR0 55 = 20 := rfl
theorem kz_56 : jSk jR0 56 = 3 := rfl
theorem kz_57 : jSk jR0 57 = 20 := rfl
theorem kz_58 : jSk jR0 58 = 20 := rfl
theorem kz_59 : jSk jR0 59 = 3 := rfl
theorem kz_60 : jSk jR0 60 = 20 := rfl
theorem kz_61 : jSk jR0 61 = 3 := rfl
theorem kz_62 : jSk jR0 62 = 20 := rfl
theorem kz_63 : jSk jR0 63 = 3 := rfl
theorem kz_64 : jSk jR0 64 = 20 := rfl
theorem kz_65 : jSk jR0 65 = 3 := rfl
theorem kz_66 : jSk jR0 66 = 20 := rfl
theorem kz_67 : jSk jR0 67 = 3 := rfl
theorem kz_68 : jSk jR0 68 = 20 := rfl
theorem kz_69 : jSk jR0 69 = 3 := rfl
theorem kz_70 : jSk jR0 70 = 20 := rfl
theorem kz_71 : jSk jR0 71 = 3 := rfl
theorem kz_72 : jSk jR0 72 = 20 := rfl
theorem kz_73 : jSk jR0 73 = 2 := rfl
theorem kz_74 : jSk jR0 74 = 3 := rfl
theorem kz_75 : jSk jR0 75 = 20 := rfl
theorem kz_76 : jSk jR0 76 = 3 := rfl
theorem kz_77 : jSk jR0 77 = 20 := rfl
theorem kz_78 : jSk jR0 78 = 7 := rfl
theorem kz_79 : jSk jR0 79 = 3 := rfl
theorem kz_80 : jSk jR0 80 = 20 := rfl
theorem kz_81 : jSk jR0 81 = 3 := rfl
theorem kz_82 : jSk jR0 82 = 20 := rfl
theorem kz_83 : jSk jR0 83 = 1 := rfl
theorem kz_84 : jSk jR0 84 = 22 := rfl
theorem kz_85 : jSk jR0 85 = 20 := rfl
theorem kz_86 : jSk jR0 86 = 0 := rfl
theorem kz_87 : jSk jR0 87 = 5 := rfl
theorem kz_88 : jSk jR0 88 = 20 := rfl
theorem kz_89 : jSk jR0 89 = 20 := rfl
theorem kz_90 : jSk jR0 90 = 4 := rfl
theorem kz_91 : jSk jR0 91 = 21 := rfl
theorem kz_92 : jSk jR0 92 = 21 := rfl
theorem kz_93 : jSk jR0 93 = 10 := rfl
theorem kz_94 : jSk jR0 94 = 20 := rfl
theorem kz_95 : jSk jR0 95 = 20 := rfl
theorem kz_96 : jSk jR0 96 = 20 := rfl
theorem kz_97 : jSk jR0 97 = 20 := rfl
theorem kz_98 : jSk jR0 98 = 20 := rfl
theorem kz_99 : jSk jR0 99 = 20 := rfl
theorem kz_100 : jSk jR0 100 = 21 := rfl
theorem kz_101 : jSk jR0 101 = 20 := rfl
theorem jR0_big {a c : Nat} (h : jSk jR0 a = c) (hc : c ≠ 99) : a < 102 := by
  rcases Nat.lt_or_ge a 102 with q | q
  · exact q
  · exfalso
    apply hc
    rw [← h]
    show jk0l.getD a 99 = 99
    rw [List.getD_eq_getElem?_getD, List.getElem?_eq_none (by exact q)]; rfl
theorem kt_1_00 : ∀ a, a < 102 → jSk jR0 a = 1 → jSk jR0 (jSr jR0 a 0) = 22 := by decide +kernel
theorem kt_1_0 {a : Nat} (h : jSk jR0 a = 1) : jSk jR0 (jSr jR0 a 0) = 22 := kt_1_00 a (jR0_big h (by decide)) h
theorem kt_1_10 : ∀ a, a < 102 → jSk jR0 a = 1 → jSk jR0 (jSr jR0 a 1) = 20 := by decide +kernel
theorem kt_1_1 {a : Nat} (h : jSk jR0 a = 1) : jSk jR0 (jSr jR0 a 1) = 20 := kt_1_10 a (jR0_big h (by decide)) h
theorem kt_2_00 : ∀ a, a < 102 → jSk jR0 a = 2 → jSk jR0 (jSr jR0 a 0) = 3 := by decide +kernel
theorem kt_2_0 {a : Nat} (h : jSk jR0 a = 2) : jSk jR0 (jSr jR0 a 0) = 3 := kt_2_00 a (jR0_big h (by decide)) h
theorem kt_2_10 : ∀ a, a < 102 → jSk jR0 a = 2 → jSk jR0 (jSr jR0 a 1) = 3 := by decide +kernel
theorem kt_2_1 {a : Nat} (h : jSk jR0 a = 2) : jSk jR0 (jSr jR0 a 1) = 3 := kt_2_10 a (jR0_big h (by decide)) h
theorem kt_2_50 : ∀ a, a < 102 → jSk jR0 a = 2 → jSk jR0 (jSr jR0 a 5) = 7 := by decide +kernel
theorem kt_2_5 {a : Nat} (h : jSk jR0 a = 2) : jSk jR0 (jSr jR0 a 5) = 7 := kt_2_50 a (jR0_big h (by decide)) h
theorem kt_2_60 : ∀ a, a < 102 → jSk jR0 a = 2 → jSk jR0 (jSr jR0 a 6) = 3 := by decide +kernel
theorem kt_2_6 {a : Nat} (h : jSk jR0 a = 2) : jSk jR0 (jSr jR0 a 6) = 3 := kt_2_60 a (jR0_big h (by decide)) h
theorem kt_3_10 : ∀ a, a < 102 → jSk jR0 a = 3 → jSk jR0 (jSr jR0 a 1) = 20 := by decide +kernel
theorem kt_3_1 {a : Nat} (h : jSk jR0 a = 3) : jSk jR0 (jSr jR0 a 1) = 20 := kt_3_10 a (jR0_big h (by decide)) h
theorem kt_4_00 : ∀ a, a < 102 → jSk jR0 a = 4 → jSk jR0 (jSr jR0 a 0) = 21 := by decide +kernel
theorem kt_4_0 {a : Nat} (h : jSk jR0 a = 4) : jSk jR0 (jSr jR0 a 0) = 21 := kt_4_00 a (jR0_big h (by decide)) h
theorem kt_4_10 : ∀ a, a < 102 → jSk jR0 a = 4 → jSk jR0 (jSr jR0 a 1) = 21 := by decide +kernel
theorem kt_4_1 {a : Nat} (h : jSk jR0 a = 4) : jSk jR0 (jSr jR0 a 1) = 21 := kt_4_10 a (jR0_big h (by decide)) h
theorem kt_5_00 : ∀ a, a < 102 → jSk jR0 a = 5 → jSk jR0 (jSr jR0 a 0) = 20 := by decide +kernel
theorem kt_5_0 {a : Nat} (h : jSk jR0 a = 5) : jSk jR0 (jSr jR0 a 0) = 20 := kt_5_00 a (jR0_big h (by decide)) h
theorem kt_5_10 : ∀ a, a < 102 → jSk jR0 a = 5 → jSk jR0 (jSr jR0 a 1) = 20 := by decide +kernel
theorem kt_5_1 {a : Nat} (h : jSk jR0 a = 5) : jSk jR0 (jSr jR0 a 1) = 20 := kt_5_10 a (jR0_big h (by decide)) h
theorem kt_6_50 : ∀ a, a < 102 → jSk jR0 a = 6 → jSk jR0 (jSr jR0 a 5) = 3 := by decide +kernel
theorem kt_6_5 {a : Nat} (h : jSk jR0 a = 6) : jSk jR0 (jSr jR0 a 5) = 3 := kt_6_50 a (jR0_big h (by decide)) h
theorem kt_6_60 : ∀ a, a < 102 → jSk jR0 a = 6 → jSk jR0 (jSr jR0 a 6) = 3 := by decide +kernel
theorem kt_6_6 {a : Nat} (h : jSk jR0 a = 6) : jSk jR0 (jSr jR0 a 6) = 3 := kt_6_60 a (jR0_big h (by decide)) h
theorem kt_6_70 : ∀ a, a < 102 → jSk jR0 a = 6 → jSk jR0 (jSr jR0 a 7) = 3 := by decide +kernel
theorem kt_6_7 {a : Nat} (h : jSk jR0 a = 6) : jSk jR0 (jSr jR0 a 7) = 3 := kt_6_70 a (jR0_big h (by decide)) h
theorem kt_6_80 : ∀ a, a < 102 → jSk jR0 a = 6 → jSk jR0 (jSr jR0 a 8) = 3 := by decide +kernel
theorem kt_6_8 {a : Nat} (h : jSk jR0 a = 6) : jSk jR0 (jSr jR0 a 8) = 3 := kt_6_80 a (jR0_big h (by decide)) h
theorem kt_6_90 : ∀ a, a < 102 → jSk jR0 a = 6 → jSk jR0 (jSr jR0 a 9) = 3 := by decide +kernel
theorem kt_6_9 {a : Nat} (h : jSk jR0 a = 6) : jSk jR0 (jSr jR0 a 9) = 3 := kt_6_90 a (jR0_big h (by decide)) h
theorem kt_6_100 : ∀ a, a < 102 → jSk jR0 a = 6 → jSk jR0 (jSr jR0 a 10) = 3 := by decide +kernel
theorem kt_6_10 {a : Nat} (h : jSk jR0 a = 6) : jSk jR0 (jSr jR0 a 10) = 3 := kt_6_100 a (jR0_big h (by decide)) h
theorem kt_6_110 : ∀ a, a < 102 → jSk jR0 a = 6 → jSk jR0 (jSr jR0 a 11) = 8 := by decide +kernel
theorem kt_6_11 {a : Nat} (h : jSk jR0 a = 6) : jSk jR0 (jSr jR0 a 11) = 8 := kt_6_110 a (jR0_big h (by decide)) h
theorem kt_6_120 : ∀ a, a < 102 → jSk jR0 a = 6 → jSk jR0 (jSr jR0 a 12) = 3 := by decide +kernel
theorem kt_6_12 {a : Nat} (h : jSk jR0 a = 6) : jSk jR0 (jSr jR0 a 12) = 3 := kt_6_120 a (jR0_big h (by decide)) h
theorem kt_6_130 : ∀ a, a < 102 → jSk jR0 a = 6 → jSk jR0 (jSr jR0 a 13) = 3 := by decide +kernel
theorem kt_6_13 {a : Nat} (h : jSk jR0 a = 6) : jSk jR0 (jSr jR0 a 13) = 3 := kt_6_130 a (jR0_big h (by decide)) h
theorem kt_6_140 : ∀ a, a < 102 → jSk jR0 a = 6 → jSk jR0 (jSr jR0 a 14) = 3 := by decide +kernel
theorem kt_6_14 {a : Nat} (h : jSk jR0 a = 6) : jSk jR0 (jSr jR0 a 14) = 3 := kt_6_140 a (jR0_big h (by decide)) h
theorem kt_6_150 : ∀ a, a < 102 → jSk jR0 a = 6 → jSk jR0 (jSr jR0 a 15) = 3 := by decide +kernel
theorem kt_6_15 {a : Nat} (h : jSk jR0 a = 6) : jSk jR0 (jSr jR0 a 15) = 3 := kt_6_150 a (jR0_big h (by decide)) h
theorem kt_6_160 : ∀ a, a < 102 → jSk jR0 a = 6 → jSk jR0 (jSr jR0 a 16) = 3 := by decide +kernel
theorem kt_6_16 {a : Nat} (h : jSk jR0 a = 6) : jSk jR0 (jSr jR0 a 16) = 3 := kt_6_160 a (jR0_big h (by decide)) h
theorem kt_6_170 : ∀ a, a < 102 → jSk jR0 a = 6 → jSk jR0 (jSr jR0 a 17) = 3 := by decide +kernel
theorem kt_6_17 {a : Nat} (h : jSk jR0 a = 6) : jSk jR0 (jSr jR0 a 17) = 3 := kt_6_170 a (jR0_big h (by decide)) h
theorem kt_6_180 : ∀ a, a < 102 → jSk jR0 a = 6 → jSk jR0 (jSr jR0 a 18) = 3 := by decide +kernel
theorem kt_6_18 {a : Nat} (h : jSk jR0 a = 6) : jSk jR0 (jSr jR0 a 18) = 3 := kt_6_180 a (jR0_big h (by decide)) h
theorem kt_7_00 : ∀ a, a < 102 → jSk jR0 a = 7 → jSk jR0 (jSr jR0 a 0) = 3 := by decide +kernel
theorem kt_7_0 {a : Nat} (h : jSk jR0 a = 7) : jSk jR0 (jSr jR0 a 0) = 3 := kt_7_00 a (jR0_big h (by decide)) h
theorem kt_7_10 : ∀ a, a < 102 → jSk jR0 a = 7 → jSk jR0 (jSr jR0 a 1) = 3 := by decide +kernel
theorem kt_7_1 {a : Nat} (h : jSk jR0 a = 7) : jSk jR0 (jSr jR0 a 1) = 3 := kt_7_10 a (jR0_big h (by decide)) h
theorem kt_8_00 : ∀ a, a < 102 → jSk jR0 a = 8 → jSk jR0 (jSr jR0 a 0) = 3 := by decide +kernel
theorem kt_8_0 {a : Nat} (h : jSk jR0 a = 8) : jSk jR0 (jSr jR0 a 0) = 3 := kt_8_00 a (jR0_big h (by decide)) h
theorem kt_8_10 : ∀ a, a < 102 → jSk jR0 a = 8 → jSk jR0 (jSr jR0 a 1) = 3 := by decide +kernel
theorem kt_8_1 {a : Nat} (h : jSk jR0 a = 8) : jSk jR0 (jSr jR0 a 1) = 3 := kt_8_10 a (jR0_big h (by decide)) h
theorem kt_8_20 : ∀ a, a < 102 → jSk jR0 a = 8 → jSk jR0 (jSr jR0 a 2) = 3 := by decide +kernel
theorem kt_8_2 {a : Nat} (h : jSk jR0 a = 8) : jSk jR0 (jSr jR0 a 2) = 3 := kt_8_20 a (jR0_big h (by decide)) h
theorem kt_8_30 : ∀ a, a < 102 → jSk jR0 a = 8 → jSk jR0 (jSr jR0 a 3) = 20 := by decide +kernel
theorem kt_8_3 {a : Nat} (h : jSk jR0 a = 8) : jSk jR0 (jSr jR0 a 3) = 20 := kt_8_30 a (jR0_big h (by decide)) h
theorem kt_9_00 : ∀ a, a < 102 → jSk jR0 a = 9 → jSk jR0 (jSr jR0 a 0) = 6 := by decide +kernel
theorem kt_9_0 {a : Nat} (h : jSk jR0 a = 9) : jSk jR0 (jSr jR0 a 0) = 6 := kt_9_00 a (jR0_big h (by decide)) h
theorem kt_9_10 : ∀ a, a < 102 → jSk jR0 a = 9 → jSk jR0 (jSr jR0 a 1) = 6 := by decide +kernel
theorem kt_9_1 {a : Nat} (h : jSk jR0 a = 9) : jSk jR0 (jSr jR0 a 1) = 6 := kt_9_10 a (jR0_big h (by decide)) h
theorem kt_9_20 : ∀ a, a < 102 → jSk jR0 a = 9 → jSk jR0 (jSr jR0 a 2) = 2 := by decide +kernel
theorem kt_9_2 {a : Nat} (h : jSk jR0 a = 9) : jSk jR0 (jSr jR0 a 2) = 2 := kt_9_20 a (jR0_big h (by decide)) h
theorem kt_9_30 : ∀ a, a < 102 → jSk jR0 a = 9 → jSk jR0 (jSr jR0 a 3) = 1 := by decide +kernel
theorem kt_9_3 {a : Nat} (h : jSk jR0 a = 9) : jSk jR0 (jSr jR0 a 3) = 1 := kt_9_30 a (jR0_big h (by decide)) h
theorem kt_9_40 : ∀ a, a < 102 → jSk jR0 a = 9 → jSk jR0 (jSr jR0 a 4) = 0 := by decide +kernel
theorem kt_9_4 {a : Nat} (h : jSk jR0 a = 9) : jSk jR0 (jSr jR0 a 4) = 0 := kt_9_40 a (jR0_big h (by decide)) h
theorem kt_9_50 : ∀ a, a < 102 → jSk jR0 a = 9 → jSk jR0 (jSr jR0 a 5) = 5 := by decide +kernel
theorem kt_9_5 {a : Nat} (h : jSk jR0 a = 9) : jSk jR0 (jSr jR0 a 5) = 5 := kt_9_50 a (jR0_big h (by decide)) h
theorem kt_9_60 : ∀ a, a < 102 → jSk jR0 a = 9 → jSk jR0 (jSr jR0 a 6) = 4 := by decide +kernel
theorem kt_9_6 {a : Nat} (h : jSk jR0 a = 9) : jSk jR0 (jSr jR0 a 6) = 4 := kt_9_60 a (jR0_big h (by decide)) h
theorem kt_10_00 : ∀ a, a < 102 → jSk jR0 a = 10 → jSk jR0 (jSr jR0 a 0) = 20 := by decide +kernel
theorem kt_10_0 {a : Nat} (h : jSk jR0 a = 10) : jSk jR0 (jSr jR0 a 0) = 20 := kt_10_00 a (jR0_big h (by decide)) h
theorem kt_10_10 : ∀ a, a < 102 → jSk jR0 a = 10 → jSk jR0 (jSr jR0 a 1) = 20 := by decide +kernel
theorem kt_10_1 {a : Nat} (h : jSk jR0 a = 10) : jSk jR0 (jSr jR0 a 1) = 20 := kt_10_10 a (jR0_big h (by decide)) h
theorem kt_10_20 : ∀ a, a < 102 → jSk jR0 a = 10 → jSk jR0 (jSr jR0 a 2) = 20 := by decide +kernel
theorem kt_10_2 {a : Nat} (h : jSk jR0 a = 10) : jSk jR0 (jSr jR0 a 2) = 20 := kt_10_20 a (jR0_big h (by decide)) h
theorem kt_10_30 : ∀ a, a < 102 → jSk jR0 a = 10 → jSk jR0 (jSr jR0 a 3) = 20 := by decide +kernel
theorem kt_10_3 {a : Nat} (h : jSk jR0 a = 10) : jSk jR0 (jSr jR0 a 3) = 20 := kt_10_30 a (jR0_big h (by decide)) h
theorem kt_10_170 : ∀ a, a < 102 → jSk jR0 a = 10 → jSk jR0 (jSr jR0 a 17) = 20 := by decide +kernel
theorem kt_10_17 {a : Nat} (h : jSk jR0 a = 10) : jSk jR0 (jSr jR0 a 17) = 20 := kt_10_170 a (jR0_big h (by decide)) h
theorem kt_10_180 : ∀ a, a < 102 → jSk jR0 a = 10 → jSk jR0 (jSr jR0 a 18) = 20 := by decide +kernel
theorem kt_10_18 {a : Nat} (h : jSk jR0 a = 10) : jSk jR0 (jSr jR0 a 18) = 20 := kt_10_180 a (jR0_big h (by decide)) h
theorem kt_10_190 : ∀ a, a < 102 → jSk jR0 a = 10 → jSk jR0 (jSr jR0 a 19) = 21 := by decide +kernel
theorem kt_10_19 {a : Nat} (h : jSk jR0 a = 10) : jSk jR0 (jSr jR0 a 19) = 21 := kt_10_190 a (jR0_big h (by decide)) h
theorem kt_10_220 : ∀ a, a < 102 → jSk jR0 a = 10 → jSk jR0 (jSr jR0 a 22) = 20 := by decide +kernel
theorem kt_10_22 {a : Nat} (h : jSk jR0 a = 10) : jSk jR0 (jSr jR0 a 22) = 20 := kt_10_220 a (jR0_big h (by decide)) h
def jfu : Nat := 30000
def jlw {β : Type} (w : jW) (k : jW → β) : β := k w
theorem jlw_c {β : Type} {W : jW} {k : jW → Option β} {z : β} {P : jW → Prop} (h : jlw W k = some z) (H : ∀ w, k w = some z → P w) : P W := H W h
theorem jgd {β : Type} {g : Bool} {x : Option β} {z : β} (h : (if g = true then x else none) = some z) : g = true ∧ x = some z := by
  by_cases c : g = true
  · rw [if_pos c] at h; exact ⟨c, h⟩
  · rw [if_neg c] at h; cases h
theorem jpos {β : Type} {c : Prop} [Decidable c] {x y : Option β} {z : β} (q : c) (h : (if c then x else y) = some z) : x = some z := by rwa [if_pos q] at h
theorem jneg {β : Type} {c : Prop} [Decidable c] {x y : Option β} {z : β} (q : ¬ c) (h : (if c then x else y) = some z) : y = some z := by rwa [if_neg q] at h
theorem jbe {α β : Type} {x : Option α} {k : α → Option β} {z : β} (h : Option.bind x k = some z) : ∃ q, x = some q ∧ k q = some z := by
  cases x with
  | none => cases h
  | some q => exact ⟨q, rfl, h⟩
def jmask : List Bool → List (Option Value) → List (Option Value)
  | true :: m, x :: t => x :: jmask m t
  | false :: m, _ :: t => none :: jmask m t
  | _, _ => []
theorem jmask_len : ∀ (m : List Bool) (L : List (Option Value)), (jmask m L).length ≤ L.length
  | [], L => Nat.zero_le _
  | true :: m, [] => Nat.zero_le _
  | false :: m, [] => Nat.zero_le _
  | true :: m, x :: t => Nat.succ_le_succ (jmask_len m t)
  | false :: m, x :: t => Nat.succ_le_succ (jmask_len m t)
theorem jmask_get : ∀ (m : List Bool) (L : List (Option Value)) (i : Nat) (v : Value), (jmask m L)[i]? = some (some v) → L[i]? = some (some v)
  | [], L, i, v, h => by simp [jmask] at h
  | true :: m, [], i, v, h => by simp [jmask] at h
  | false :: m, [], i, v, h => by simp [jmask] at h
  | true :: m, x :: t, 0, v, h => by simpa [jmask] using h
  | false :: m, x :: t, 0, v, h => by simp [jmask] at h
  | true :: m, x :: t, i + 1, v, h => by
    simp only [jmask, List.getElem?_cons_succ] at h ⊢
    exact jmask_get m t i v h
  | false :: m, x :: t, i + 1, v, h => by
    simp only [jmask, List.getElem?_cons_succ] at h ⊢
    exact jmask_get m t i v h
theorem ev_mask {l : Launch} {G : jG} {R : Room} {y : jM} {res : Option Value × jS × jW} {mc ms c0 s0 pc : Nat} {L : List (Option Value)} {st : List Value} {r : jS} {w : jW} (m : List Bool) (k : Ev l G R y res mc ms c0 s0 pc (jmask m L) st r w) : Ev l G R y res mc ms c0 s0 pc L st r w := by
  intro p e s mm args below meth c H locs ls hx hb hn hr hlk ho hts hnm hK hW hlo hL
  exact k p e s mm args below meth c H locs ls hx hb hn hr hlk ho hts hnm hK hW hlo ⟨hL.1, Nat.le_trans (jmask_len m L) hL.2.1, hL.2.2.1, fun i v h => hL.2.2.2 i v (jmask_get m L i v h)⟩

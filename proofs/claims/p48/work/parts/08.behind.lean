/-! THE WORLD BEHIND THE CONSTRUCTORS: 103 cells, their kinds, lengths, references (a run of the listing gave the numbers; the constructors' own contracts prove them) -/
def jk0l : List Nat := [99, 99, 9, 6, 3, 20, 3, 20, 3, 20, 3, 20, 3, 20, 3, 20, 8, 3, 20, 3, 20, 3, 20, 20, 3, 20, 3, 20, 3, 20, 3, 20, 3, 20, 3, 20, 3, 20, 6, 3, 20, 3, 20, 3, 20, 3, 20, 3, 20, 3, 20, 8, 3, 20, 3, 20, 3, 20, 20, 3, 20, 3, 20, 3, 20, 3, 20, 3, 20, 3, 20, 3, 20, 2, 3, 20, 3, 20, 7, 3, 20, 3, 20, 1, 22, 20, 0, 5, 20, 20, 4, 21, 21, 21, 20, 20, 20, 20, 20, 20, 20, 20, 22, 20, 20]
def jl0l : List Nat := [0, 0, 0, 0, 0, 16, 0, 50, 0, 100, 0, 440, 0, 600, 0, 80, 0, 0, 40, 0, 640, 0, 3000, 5, 0, 800, 0, 1000, 0, 300, 0, 150, 0, 2560, 0, 120, 0, 120, 0, 0, 16, 0, 50, 0, 100, 0, 440, 0, 600, 0, 80, 0, 0, 40, 0, 640, 0, 3000, 5, 0, 800, 0, 1000, 0, 300, 0, 150, 0, 2560, 0, 120, 0, 120, 0, 0, 64, 0, 300, 0, 0, 300, 0, 903, 0, 4, 40, 0, 0, 5, 5, 0, 10, 300, 5, 5, 25, 3, 3, 32, 80, 16, 5, 2, 5, 5]
def jr0l : List (List Nat) := [[], [], [3, 38, 73, 83, 86, 87, 90], [0, 0, 0, 0, 0, 4, 6, 8, 10, 12, 14, 16, 24, 26, 28, 30, 32, 34, 36], [0, 5, 0], [], [0, 7, 0], [], [0, 9, 0], [], [0, 11, 0], [], [0, 13, 0], [], [0, 15, 0], [], [17, 19, 21, 23], [0, 18, 0], [], [0, 20, 0], [], [0, 22, 0], [], [], [0, 25, 0], [], [0, 27, 0], [], [0, 29, 0], [], [0, 31, 0], [], [0, 33, 0], [], [0, 35, 0], [], [0, 37, 0], [], [0, 0, 0, 0, 0, 39, 41, 43, 45, 47, 49, 51, 59, 61, 63, 65, 67, 69, 71], [0, 40, 0], [], [0, 42, 0], [], [0, 44, 0], [], [0, 46, 0], [], [0, 48, 0], [], [0, 50, 0], [], [52, 54, 56, 58], [0, 53, 0], [], [0, 55, 0], [], [0, 57, 0], [], [], [0, 60, 0], [], [0, 62, 0], [], [0, 64, 0], [], [0, 66, 0], [], [0, 68, 0], [], [0, 70, 0], [], [0, 72, 0], [], [74, 76, 0, 0, 0, 78, 81, 0], [0, 75, 0], [], [0, 77, 0], [], [79, 81, 0], [0, 80, 0], [], [0, 82, 0], [], [84, 85], [], [], [0, 0, 0], [88, 89, 0, 0, 0, 0], [], [], [91, 92, 0, 0, 0, 0], [], [], [], [], [], [], [], [], [], [], [], [], [], []]
/-- the world while kk cells (0 and 1 among them) stand: the further ones have no kind yet -/
def jRx (kk : Nat) : jS := (kk - 2, fun a => if a < kk then jk0l.getD a 99 else 99, fun a => jl0l.getD a 0, fun a k => (jr0l.getD a []).getD k 0)
def jR0 : jS := jRx 105
theorem kz_2 {kk : Nat} (hk : 93 ≤ kk) : jSk (jRx kk) 2 = 9 := if_pos (Nat.lt_of_lt_of_le (Nat.le_of_ble_eq_true rfl) hk)
theorem kz_3 {kk : Nat} (hk : 93 ≤ kk) : jSk (jRx kk) 3 = 6 := if_pos (Nat.lt_of_lt_of_le (Nat.le_of_ble_eq_true rfl) hk)
theorem kz_4 {kk : Nat} (hk : 93 ≤ kk) : jSk (jRx kk) 4 = 3 := if_pos (Nat.lt_of_lt_of_le (Nat.le_of_ble_eq_true rfl) hk)
theorem kz_5 {kk : Nat} (hk : 93 ≤ kk) : jSk (jRx kk) 5 = 20 := if_pos (Nat.lt_of_lt_of_le (Nat.le_of_ble_eq_true rfl) hk)
theorem kz_6 {kk : Nat} (hk : 93 ≤ kk) : jSk (jRx kk) 6 = 3 := if_pos (Nat.lt_of_lt_of_le (Nat.le_of_ble_eq_true rfl) hk)
theorem kz_7 {kk : Nat} (hk : 93 ≤ kk) : jSk (jRx kk) 7 = 20 := if_pos (Nat.lt_of_lt_of_le (Nat.le_of_ble_eq_true rfl) hk)
theorem kz_8 {kk : Nat} (hk : 93 ≤ kk) : jSk (jRx kk) 8 = 3 := if_pos (Nat.lt_of_lt_of_le (Nat.le_of_ble_eq_true rfl) hk)
theorem kz_9 {kk : Nat} (hk : 93 ≤ kk) : jSk (jRx kk) 9 = 20 := if_pos (Nat.lt_of_lt_of_le (Nat.le_of_ble_eq_true rfl) hk)
theorem kz_10 {kk : Nat} (hk : 93 ≤ kk) : jSk (jRx kk) 10 = 3 := if_pos (Nat.lt_of_lt_of_le (Nat.le_of_ble_eq_true rfl) hk)
theorem kz_11 {kk : Nat} (hk : 93 ≤ kk) : jSk (jRx kk) 11 = 20 := if_pos (Nat.lt_of_lt_of_le (Nat.le_of_ble_eq_true rfl) hk)
theorem kz_12 {kk : Nat} (hk : 93 ≤ kk) : jSk (jRx kk) 12 = 3 := if_pos (Nat.lt_of_lt_of_le (Nat.le_of_ble_eq_true rfl) hk)
theorem kz_13 {kk : Nat} (hk : 93 ≤ kk) : jSk (jRx kk) 13 = 20 := if_pos (Nat.lt_of_lt_of_le (Nat.le_of_ble_eq_true rfl) hk)
theorem kz_14 {kk : Nat} (hk : 93 ≤ kk) : jSk (jRx kk) 14 = 3 := if_pos (Nat.lt_of_lt_of_le (Nat.le_of_ble_eq_true rfl) hk)
theorem kz_15 {kk : Nat} (hk : 93 ≤ kk) : jSk (jRx kk) 15 = 20 := if_pos (Nat.lt_of_lt_of_le (Nat.le_of_ble_eq_true rfl) hk)
theorem kz_16 {kk : Nat} (hk : 93 ≤ kk) : jSk (jRx kk) 16 = 8 := if_pos (Nat.lt_of_lt_of_le (Nat.le_of_ble_eq_true rfl) hk)
theorem kz_17 {kk : Nat} (hk : 93 ≤ kk) : jSk (jRx kk) 17 = 3 := if_pos (Nat.lt_of_lt_of_le (Nat.le_of_ble_eq_true rfl) hk)
theorem kz_18 {kk : Nat} (hk : 93 ≤ kk) : jSk (jRx kk) 18 = 20 := if_pos (Nat.lt_of_lt_of_le (Nat.le_of_ble_eq_true rfl) hk)
theorem kz_19 {kk : Nat} (hk : 93 ≤ kk) : jSk (jRx kk) 19 = 3 := if_pos (Nat.lt_of_lt_of_le (Nat.le_of_ble_eq_true rfl) hk)
theorem kz_20 {kk : Nat} (hk : 93 ≤ kk) : jSk (jRx kk) 20 = 20 := if_pos (Nat.lt_of_lt_of_le (Nat.le_of_ble_eq_true rfl) hk)
theorem kz_21 {kk : Nat} (hk : 93 ≤ kk) : jSk (jRx kk) 21 = 3 := if_pos (Nat.lt_of_lt_of_le (Nat.le_of_ble_eq_true rfl) hk)
theorem kz_22 {kk : Nat} (hk : 93 ≤ kk) : jSk (jRx kk) 22 = 20 := if_pos (Nat.lt_of_lt_of_le (Nat.le_of_ble_eq_true rfl) hk)
theorem kz_23 {kk : Nat} (hk : 93 ≤ kk) : jSk (jRx kk) 23 = 20 := if_pos (Nat.lt_of_lt_of_le (Nat.le_of_ble_eq_true rfl) hk)
theorem kz_24 {kk : Nat} (hk : 93 ≤ kk) : jSk (jRx kk) 24 = 3 := if_pos (Nat.lt_of_lt_of_le (Nat.le_of_ble_eq_true rfl) hk)
theorem kz_25 {kk : Nat} (hk : 93 ≤ kk) : jSk (jRx kk) 25 = 20 := if_pos (Nat.lt_of_lt_of_le (Nat.le_of_ble_eq_true rfl) hk)
theorem kz_26 {kk : Nat} (hk : 93 ≤ kk) : jSk (jRx kk) 26 = 3 := if_pos (Nat.lt_of_lt_of_le (Nat.le_of_ble_eq_true rfl) hk)
theorem kz_27 {kk : Nat} (hk : 93 ≤ kk) : jSk (jRx kk) 27 = 20 := if_pos (Nat.lt_of_lt_of_le (Nat.le_of_ble_eq_true rfl) hk)
theorem kz_28 {kk : Nat} (hk : 93 ≤ kk) : jSk (jRx kk) 28 = 3 := if_pos (Nat.lt_of_lt_of_le (Nat.le_of_ble_eq_true rfl) hk)
theorem kz_29 {kk : Nat} (hk : 93 ≤ kk) : jSk (jRx kk) 29 = 20 := if_pos (Nat.lt_of_lt_of_le (Nat.le_of_ble_eq_true rfl) hk)
theorem kz_30 {kk : Nat} (hk : 93 ≤ kk) : jSk (jRx kk) 30 = 3 := if_pos (Nat.lt_of_lt_of_le (Nat.le_of_ble_eq_true rfl) hk)
theorem kz_31 {kk : Nat} (hk : 93 ≤ kk) : jSk (jRx kk) 31 = 20 := if_pos (Nat.lt_of_lt_of_le (Nat.le_of_ble_eq_true rfl) hk)
theorem kz_32 {kk : Nat} (hk : 93 ≤ kk) : jSk (jRx kk) 32 = 3 := if_pos (Nat.lt_of_lt_of_le (Nat.le_of_ble_eq_true rfl) hk)
theorem kz_33 {kk : Nat} (hk : 93 ≤ kk) : jSk (jRx kk) 33 = 20 := if_pos (Nat.lt_of_lt_of_le (Nat.le_of_ble_eq_true rfl) hk)
theorem kz_34 {kk : Nat} (hk : 93 ≤ kk) : jSk (jRx kk) 34 = 3 := if_pos (Nat.lt_of_lt_of_le (Nat.le_of_ble_eq_true rfl) hk)
theorem kz_35 {kk : Nat} (hk : 93 ≤ kk) : jSk (jRx kk) 35 = 20 := if_pos (Nat.lt_of_lt_of_le (Nat.le_of_ble_eq_true rfl) hk)
theorem kz_36 {kk : Nat} (hk : 93 ≤ kk) : jSk (jRx kk) 36 = 3 := if_pos (Nat.lt_of_lt_of_le (Nat.le_of_ble_eq_true rfl) hk)
theorem kz_37 {kk : Nat} (hk : 93 ≤ kk) : jSk (jRx kk) 37 = 20 := if_pos (Nat.lt_of_lt_of_le (Nat.le_of_ble_eq_true rfl) hk)
theorem kz_38 {kk : Nat} (hk : 93 ≤ kk) : jSk (jRx kk) 38 = 6 := if_pos (Nat.lt_of_lt_of_le (Nat.le_of_ble_eq_true rfl) hk)
theorem kz_39 {kk : Nat} (hk : 93 ≤ kk) : jSk (jRx kk) 39 = 3 := if_pos (Nat.lt_of_lt_of_le (Nat.le_of_ble_eq_true rfl) hk)
theorem kz_40 {kk : Nat} (hk : 93 ≤ kk) : jSk (jRx kk) 40 = 20 := if_pos (Nat.lt_of_lt_of_le (Nat.le_of_ble_eq_true rfl) hk)
theorem kz_41 {kk : Nat} (hk : 93 ≤ kk) : jSk (jRx kk) 41 = 3 := if_pos (Nat.lt_of_lt_of_le (Nat.le_of_ble_eq_true rfl) hk)
theorem kz_42 {kk : Nat} (hk : 93 ≤ kk) : jSk (jRx kk) 42 = 20 := if_pos (Nat.lt_of_lt_of_le (Nat.le_of_ble_eq_true rfl) hk)
theorem kz_43 {kk : Nat} (hk : 93 ≤ kk) : jSk (jRx kk) 43 = 3 := if_pos (Nat.lt_of_lt_of_le (Nat.le_of_ble_eq_true rfl) hk)
theorem kz_44 {kk : Nat} (hk : 93 ≤ kk) : jSk (jRx kk) 44 = 20 := if_pos (Nat.lt_of_lt_of_le (Nat.le_of_ble_eq_true rfl) hk)
theorem kz_45 {kk : Nat} (hk : 93 ≤ kk) : jSk (jRx kk) 45 = 3 := if_pos (Nat.lt_of_lt_of_le (Nat.le_of_ble_eq_true rfl) hk)
theorem kz_46 {kk : Nat} (hk : 93 ≤ kk) : jSk (jRx kk) 46 = 20 := if_pos (Nat.lt_of_lt_of_le (Nat.le_of_ble_eq_true rfl) hk)
theorem kz_47 {kk : Nat} (hk : 93 ≤ kk) : jSk (jRx kk) 47 = 3 := if_pos (Nat.lt_of_lt_of_le (Nat.le_of_ble_eq_true rfl) hk)
theorem kz_48 {kk : Nat} (hk : 93 ≤ kk) : jSk (jRx kk) 48 = 20 := if_pos (Nat.lt_of_lt_of_le (Nat.le_of_ble_eq_true rfl) hk)
theorem kz_49 {kk : Nat} (hk : 93 ≤ kk) : jSk (jRx kk) 49 = 3 := if_pos (Nat.lt_of_lt_of_le (Nat.le_of_ble_eq_true rfl) hk)
theorem kz_50 {kk : Nat} (hk : 93 ≤ kk) : jSk (jRx kk) 50 = 20 := if_pos (Nat.lt_of_lt_of_le (Nat.le_of_ble_eq_true rfl) hk)
theorem kz_51 {kk : Nat} (hk : 93 ≤ kk) : jSk (jRx kk) 51 = 8 := if_pos (Nat.lt_of_lt_of_le (Nat.le_of_ble_eq_true rfl) hk)
theorem kz_52 {kk : Nat} (hk : 93 ≤ kk) : jSk (jRx kk) 52 = 3 := if_pos (Nat.lt_of_lt_of_le (Nat.le_of_ble_eq_true rfl) hk)
theorem kz_53 {kk : Nat} (hk : 93 ≤ kk) : jSk (jRx kk) 53 = 20 := if_pos (Nat.lt_of_lt_of_le (Nat.le_of_ble_eq_true rfl) hk)
theorem kz_54 {kk : Nat} (hk : 93 ≤ kk) : jSk (jRx kk) 54 = 3 := if_pos (Nat.lt_of_lt_of_le (Nat.le_of_ble_eq_true rfl) hk)
theorem kz_55 {kk : Nat} (hk : 93 ≤ kk) : jSk (jRx kk) 55 = 20 := if_pos (Nat.lt_of_lt_of_le (Nat.le_of_ble_eq_true rfl) hk)
theorem kz_56 {kk : Nat} (hk : 93 ≤ kk) : jSk (jRx kk) 56 = 3 := if_pos (Nat.lt_of_lt_of_le (Nat.le_of_ble_eq_true rfl) hk)
theorem kz_57 {kk : Nat} (hk : 93 ≤ kk) : jSk (jRx kk) 57 = 20 := if_pos (Nat.lt_of_lt_of_le (Nat.le_of_ble_eq_true rfl) hk)
theorem kz_58 {kk : Nat} (hk : 93 ≤ kk) : jSk (jRx kk) 58 = 20 := if_pos (Nat.lt_of_lt_of_le (Nat.le_of_ble_eq_true rfl) hk)
theorem kz_59 {kk : Nat} (hk : 93 ≤ kk) : jSk (jRx kk) 59 = 3 := if_pos (Nat.lt_of_lt_of_le (Nat.le_of_ble_eq_true rfl) hk)
theorem kz_60 {kk : Nat} (hk : 93 ≤ kk) : jSk (jRx kk) 60 = 20 := if_pos (Nat.lt_of_lt_of_le (Nat.le_of_ble_eq_true rfl) hk)
theorem kz_61 {kk : Nat} (hk : 93 ≤ kk) : jSk (jRx kk) 61 = 3 := if_pos (Nat.lt_of_lt_of_le (Nat.le_of_ble_eq_true rfl) hk)
theorem kz_62 {kk : Nat} (hk : 93 ≤ kk) : jSk (jRx kk) 62 = 20 := if_pos (Nat.lt_of_lt_of_le (Nat.le_of_ble_eq_true rfl) hk)
theorem kz_63 {kk : Nat} (hk : 93 ≤ kk) : jSk (jRx kk) 63 = 3 := if_pos (Nat.lt_of_lt_of_le (Nat.le_of_ble_eq_true rfl) hk)
theorem kz_64 {kk : Nat} (hk : 93 ≤ kk) : jSk (jRx kk) 64 = 20 := if_pos (Nat.lt_of_lt_of_le (Nat.le_of_ble_eq_true rfl) hk)
theorem kz_65 {kk : Nat} (hk : 93 ≤ kk) : jSk (jRx kk) 65 = 3 := if_pos (Nat.lt_of_lt_of_le (Nat.le_of_ble_eq_true rfl) hk)
theorem kz_66 {kk : Nat} (hk : 93 ≤ kk) : jSk (jRx kk) 66 = 20 := if_pos (Nat.lt_of_lt_of_le (Nat.le_of_ble_eq_true rfl) hk)
theorem kz_67 {kk : Nat} (hk : 93 ≤ kk) : jSk (jRx kk) 67 = 3 := if_pos (Nat.lt_of_lt_of_le (Nat.le_of_ble_eq_true rfl) hk)
theorem kz_68 {kk : Nat} (hk : 93 ≤ kk) : jSk (jRx kk) 68 = 20 := if_pos (Nat.lt_of_lt_of_le (Nat.le_of_ble_eq_true rfl) hk)
theorem kz_69 {kk : Nat} (hk : 93 ≤ kk) : jSk (jRx kk) 69 = 3 := if_pos (Nat.lt_of_lt_of_le (Nat.le_of_ble_eq_true rfl) hk)
theorem kz_70 {kk : Nat} (hk : 93 ≤ kk) : jSk (jRx kk) 70 = 20 := if_pos (Nat.lt_of_lt_of_le (Nat.le_of_ble_eq_true rfl) hk)
theorem kz_71 {kk : Nat} (hk : 93 ≤ kk) : jSk (jRx kk) 71 = 3 := if_pos (Nat.lt_of_lt_of_le (Nat.le_of_ble_eq_true rfl) hk)
theorem kz_72 {kk : Nat} (hk : 93 ≤ kk) : jSk (jRx kk) 72 = 20 := if_pos (Nat.lt_of_lt_of_le (Nat.le_of_ble_eq_true rfl) hk)
theorem kz_73 {kk : Nat} (hk : 93 ≤ kk) : jSk (jRx kk) 73 = 2 := if_pos (Nat.lt_of_lt_of_le (Nat.le_of_ble_eq_true rfl) hk)
theorem kz_74 {kk : Nat} (hk : 93 ≤ kk) : jSk (jRx kk) 74 = 3 := if_pos (Nat.lt_of_lt_of_le (Nat.le_of_ble_eq_true rfl) hk)
theorem kz_75 {kk : Nat} (hk : 93 ≤ kk) : jSk (jRx kk) 75 = 20 := if_pos (Nat.lt_of_lt_of_le (Nat.le_of_ble_eq_true rfl) hk)
theorem kz_76 {kk : Nat} (hk : 93 ≤ kk) : jSk (jRx kk) 76 = 3 := if_pos (Nat.lt_of_lt_of_le (Nat.le_of_ble_eq_true rfl) hk)
theorem kz_77 {kk : Nat} (hk : 93 ≤ kk) : jSk (jRx kk) 77 = 20 := if_pos (Nat.lt_of_lt_of_le (Nat.le_of_ble_eq_true rfl) hk)
theorem kz_78 {kk : Nat} (hk : 93 ≤ kk) : jSk (jRx kk) 78 = 7 := if_pos (Nat.lt_of_lt_of_le (Nat.le_of_ble_eq_true rfl) hk)
theorem kz_79 {kk : Nat} (hk : 93 ≤ kk) : jSk (jRx kk) 79 = 3 := if_pos (Nat.lt_of_lt_of_le (Nat.le_of_ble_eq_true rfl) hk)
theorem kz_80 {kk : Nat} (hk : 93 ≤ kk) : jSk (jRx kk) 80 = 20 := if_pos (Nat.lt_of_lt_of_le (Nat.le_of_ble_eq_true rfl) hk)
theorem kz_81 {kk : Nat} (hk : 93 ≤ kk) : jSk (jRx kk) 81 = 3 := if_pos (Nat.lt_of_lt_of_le (Nat.le_of_ble_eq_true rfl) hk)
theorem kz_82 {kk : Nat} (hk : 93 ≤ kk) : jSk (jRx kk) 82 = 20 := if_pos (Nat.lt_of_lt_of_le (Nat.le_of_ble_eq_true rfl) hk)
theorem kz_83 {kk : Nat} (hk : 93 ≤ kk) : jSk (jRx kk) 83 = 1 := if_pos (Nat.lt_of_lt_of_le (Nat.le_of_ble_eq_true rfl) hk)
theorem kz_84 {kk : Nat} (hk : 93 ≤ kk) : jSk (jRx kk) 84 = 22 := if_pos (Nat.lt_of_lt_of_le (Nat.le_of_ble_eq_true rfl) hk)
theorem kz_85 {kk : Nat} (hk : 93 ≤ kk) : jSk (jRx kk) 85 = 20 := if_pos (Nat.lt_of_lt_of_le (Nat.le_of_ble_eq_true rfl) hk)
theorem kz_86 {kk : Nat} (hk : 93 ≤ kk) : jSk (jRx kk) 86 = 0 := if_pos (Nat.lt_of_lt_of_le (Nat.le_of_ble_eq_true rfl) hk)
theorem kz_87 {kk : Nat} (hk : 93 ≤ kk) : jSk (jRx kk) 87 = 5 := if_pos (Nat.lt_of_lt_of_le (Nat.le_of_ble_eq_true rfl) hk)
theorem kz_88 {kk : Nat} (hk : 93 ≤ kk) : jSk (jRx kk) 88 = 20 := if_pos (Nat.lt_of_lt_of_le (Nat.le_of_ble_eq_true rfl) hk)
theorem kz_89 {kk : Nat} (hk : 93 ≤ kk) : jSk (jRx kk) 89 = 20 := if_pos (Nat.lt_of_lt_of_le (Nat.le_of_ble_eq_true rfl) hk)
theorem kz_90 {kk : Nat} (hk : 93 ≤ kk) : jSk (jRx kk) 90 = 4 := if_pos (Nat.lt_of_lt_of_le (Nat.le_of_ble_eq_true rfl) hk)
theorem kz_91 {kk : Nat} (hk : 93 ≤ kk) : jSk (jRx kk) 91 = 21 := if_pos (Nat.lt_of_lt_of_le (Nat.le_of_ble_eq_true rfl) hk)
theorem kz_92 {kk : Nat} (hk : 93 ≤ kk) : jSk (jRx kk) 92 = 21 := if_pos (Nat.lt_of_lt_of_le (Nat.le_of_ble_eq_true rfl) hk)
theorem jRx_big {kk a c : Nat} (h : jSk (jRx kk) a = c) (hc : c ≠ 99) : a < 105 ∧ jk0l.getD a 99 = c := by
  have h2 : (if a < kk then jk0l.getD a 99 else 99) = c := h
  by_cases q : a < kk
  · rw [if_pos q] at h2
    refine ⟨?_, h2⟩
    rcases Nat.lt_or_ge a 105 with z | z
    · exact z
    · exfalso
      apply hc
      rw [← h2, List.getD_eq_getElem?_getD, List.getElem?_eq_none (by exact z)]; rfl
  · rw [if_neg q] at h2
    exact absurd h2.symm hc
theorem kt_1_00 : ∀ a, a < 105 → jk0l.getD a 99 = 1 → (jr0l.getD a []).getD 0 0 < 93 ∧ jk0l.getD ((jr0l.getD a []).getD 0 0) 99 = 22 := by decide +kernel
theorem kt_1_0 {kk a : Nat} (hk : 93 ≤ kk) (h : jSk (jRx kk) a = 1) : jSk (jRx kk) (jSr jR0 a 0) = 22 := by
  obtain ⟨h1, h2⟩ := jRx_big h (by decide)
  obtain ⟨h3, h4⟩ := kt_1_00 a h1 h2
  exact (if_pos (Nat.lt_of_lt_of_le h3 hk)).trans h4
theorem kt_1_10 : ∀ a, a < 105 → jk0l.getD a 99 = 1 → (jr0l.getD a []).getD 1 0 < 93 ∧ jk0l.getD ((jr0l.getD a []).getD 1 0) 99 = 20 := by decide +kernel
theorem kt_1_1 {kk a : Nat} (hk : 93 ≤ kk) (h : jSk (jRx kk) a = 1) : jSk (jRx kk) (jSr jR0 a 1) = 20 := by
  obtain ⟨h1, h2⟩ := jRx_big h (by decide)
  obtain ⟨h3, h4⟩ := kt_1_10 a h1 h2
  exact (if_pos (Nat.lt_of_lt_of_le h3 hk)).trans h4
theorem kt_2_00 : ∀ a, a < 105 → jk0l.getD a 99 = 2 → (jr0l.getD a []).getD 0 0 < 93 ∧ jk0l.getD ((jr0l.getD a []).getD 0 0) 99 = 3 := by decide +kernel
theorem kt_2_0 {kk a : Nat} (hk : 93 ≤ kk) (h : jSk (jRx kk) a = 2) : jSk (jRx kk) (jSr jR0 a 0) = 3 := by
  obtain ⟨h1, h2⟩ := jRx_big h (by decide)
  obtain ⟨h3, h4⟩ := kt_2_00 a h1 h2
  exact (if_pos (Nat.lt_of_lt_of_le h3 hk)).trans h4
theorem kt_2_10 : ∀ a, a < 105 → jk0l.getD a 99 = 2 → (jr0l.getD a []).getD 1 0 < 93 ∧ jk0l.getD ((jr0l.getD a []).getD 1 0) 99 = 3 := by decide +kernel
theorem kt_2_1 {kk a : Nat} (hk : 93 ≤ kk) (h : jSk (jRx kk) a = 2) : jSk (jRx kk) (jSr jR0 a 1) = 3 := by
  obtain ⟨h1, h2⟩ := jRx_big h (by decide)
  obtain ⟨h3, h4⟩ := kt_2_10 a h1 h2
  exact (if_pos (Nat.lt_of_lt_of_le h3 hk)).trans h4
theorem kt_2_50 : ∀ a, a < 105 → jk0l.getD a 99 = 2 → (jr0l.getD a []).getD 5 0 < 93 ∧ jk0l.getD ((jr0l.getD a []).getD 5 0) 99 = 7 := by decide +kernel
theorem kt_2_5 {kk a : Nat} (hk : 93 ≤ kk) (h : jSk (jRx kk) a = 2) : jSk (jRx kk) (jSr jR0 a 5) = 7 := by
  obtain ⟨h1, h2⟩ := jRx_big h (by decide)
  obtain ⟨h3, h4⟩ := kt_2_50 a h1 h2
  exact (if_pos (Nat.lt_of_lt_of_le h3 hk)).trans h4
theorem kt_2_60 : ∀ a, a < 105 → jk0l.getD a 99 = 2 → (jr0l.getD a []).getD 6 0 < 93 ∧ jk0l.getD ((jr0l.getD a []).getD 6 0) 99 = 3 := by decide +kernel
theorem kt_2_6 {kk a : Nat} (hk : 93 ≤ kk) (h : jSk (jRx kk) a = 2) : jSk (jRx kk) (jSr jR0 a 6) = 3 := by
  obtain ⟨h1, h2⟩ := jRx_big h (by decide)
  obtain ⟨h3, h4⟩ := kt_2_60 a h1 h2
  exact (if_pos (Nat.lt_of_lt_of_le h3 hk)).trans h4
theorem kt_3_10 : ∀ a, a < 105 → jk0l.getD a 99 = 3 → (jr0l.getD a []).getD 1 0 < 93 ∧ jk0l.getD ((jr0l.getD a []).getD 1 0) 99 = 20 := by decide +kernel
theorem kt_3_1 {kk a : Nat} (hk : 93 ≤ kk) (h : jSk (jRx kk) a = 3) : jSk (jRx kk) (jSr jR0 a 1) = 20 := by
  obtain ⟨h1, h2⟩ := jRx_big h (by decide)
  obtain ⟨h3, h4⟩ := kt_3_10 a h1 h2
  exact (if_pos (Nat.lt_of_lt_of_le h3 hk)).trans h4
theorem kt_4_00 : ∀ a, a < 105 → jk0l.getD a 99 = 4 → (jr0l.getD a []).getD 0 0 < 93 ∧ jk0l.getD ((jr0l.getD a []).getD 0 0) 99 = 21 := by decide +kernel
theorem kt_4_0 {kk a : Nat} (hk : 93 ≤ kk) (h : jSk (jRx kk) a = 4) : jSk (jRx kk) (jSr jR0 a 0) = 21 := by
  obtain ⟨h1, h2⟩ := jRx_big h (by decide)
  obtain ⟨h3, h4⟩ := kt_4_00 a h1 h2
  exact (if_pos (Nat.lt_of_lt_of_le h3 hk)).trans h4
theorem kt_4_10 : ∀ a, a < 105 → jk0l.getD a 99 = 4 → (jr0l.getD a []).getD 1 0 < 93 ∧ jk0l.getD ((jr0l.getD a []).getD 1 0) 99 = 21 := by decide +kernel
theorem kt_4_1 {kk a : Nat} (hk : 93 ≤ kk) (h : jSk (jRx kk) a = 4) : jSk (jRx kk) (jSr jR0 a 1) = 21 := by
  obtain ⟨h1, h2⟩ := jRx_big h (by decide)
  obtain ⟨h3, h4⟩ := kt_4_10 a h1 h2
  exact (if_pos (Nat.lt_of_lt_of_le h3 hk)).trans h4
theorem kt_5_00 : ∀ a, a < 105 → jk0l.getD a 99 = 5 → (jr0l.getD a []).getD 0 0 < 93 ∧ jk0l.getD ((jr0l.getD a []).getD 0 0) 99 = 20 := by decide +kernel
theorem kt_5_0 {kk a : Nat} (hk : 93 ≤ kk) (h : jSk (jRx kk) a = 5) : jSk (jRx kk) (jSr jR0 a 0) = 20 := by
  obtain ⟨h1, h2⟩ := jRx_big h (by decide)
  obtain ⟨h3, h4⟩ := kt_5_00 a h1 h2
  exact (if_pos (Nat.lt_of_lt_of_le h3 hk)).trans h4
theorem kt_5_10 : ∀ a, a < 105 → jk0l.getD a 99 = 5 → (jr0l.getD a []).getD 1 0 < 93 ∧ jk0l.getD ((jr0l.getD a []).getD 1 0) 99 = 20 := by decide +kernel
theorem kt_5_1 {kk a : Nat} (hk : 93 ≤ kk) (h : jSk (jRx kk) a = 5) : jSk (jRx kk) (jSr jR0 a 1) = 20 := by
  obtain ⟨h1, h2⟩ := jRx_big h (by decide)
  obtain ⟨h3, h4⟩ := kt_5_10 a h1 h2
  exact (if_pos (Nat.lt_of_lt_of_le h3 hk)).trans h4
theorem kt_6_50 : ∀ a, a < 105 → jk0l.getD a 99 = 6 → (jr0l.getD a []).getD 5 0 < 93 ∧ jk0l.getD ((jr0l.getD a []).getD 5 0) 99 = 3 := by decide +kernel
theorem kt_6_5 {kk a : Nat} (hk : 93 ≤ kk) (h : jSk (jRx kk) a = 6) : jSk (jRx kk) (jSr jR0 a 5) = 3 := by
  obtain ⟨h1, h2⟩ := jRx_big h (by decide)
  obtain ⟨h3, h4⟩ := kt_6_50 a h1 h2
  exact (if_pos (Nat.lt_of_lt_of_le h3 hk)).trans h4
theorem kt_6_60 : ∀ a, a < 105 → jk0l.getD a 99 = 6 → (jr0l.getD a []).getD 6 0 < 93 ∧ jk0l.getD ((jr0l.getD a []).getD 6 0) 99 = 3 := by decide +kernel
theorem kt_6_6 {kk a : Nat} (hk : 93 ≤ kk) (h : jSk (jRx kk) a = 6) : jSk (jRx kk) (jSr jR0 a 6) = 3 := by
  obtain ⟨h1, h2⟩ := jRx_big h (by decide)
  obtain ⟨h3, h4⟩ := kt_6_60 a h1 h2
  exact (if_pos (Nat.lt_of_lt_of_le h3 hk)).trans h4
theorem kt_6_70 : ∀ a, a < 105 → jk0l.getD a 99 = 6 → (jr0l.getD a []).getD 7 0 < 93 ∧ jk0l.getD ((jr0l.getD a []).getD 7 0) 99 = 3 := by decide +kernel
theorem kt_6_7 {kk a : Nat} (hk : 93 ≤ kk) (h : jSk (jRx kk) a = 6) : jSk (jRx kk) (jSr jR0 a 7) = 3 := by
  obtain ⟨h1, h2⟩ := jRx_big h (by decide)
  obtain ⟨h3, h4⟩ := kt_6_70 a h1 h2
  exact (if_pos (Nat.lt_of_lt_of_le h3 hk)).trans h4
theorem kt_6_80 : ∀ a, a < 105 → jk0l.getD a 99 = 6 → (jr0l.getD a []).getD 8 0 < 93 ∧ jk0l.getD ((jr0l.getD a []).getD 8 0) 99 = 3 := by decide +kernel
theorem kt_6_8 {kk a : Nat} (hk : 93 ≤ kk) (h : jSk (jRx kk) a = 6) : jSk (jRx kk) (jSr jR0 a 8) = 3 := by
  obtain ⟨h1, h2⟩ := jRx_big h (by decide)
  obtain ⟨h3, h4⟩ := kt_6_80 a h1 h2
  exact (if_pos (Nat.lt_of_lt_of_le h3 hk)).trans h4
theorem kt_6_90 : ∀ a, a < 105 → jk0l.getD a 99 = 6 → (jr0l.getD a []).getD 9 0 < 93 ∧ jk0l.getD ((jr0l.getD a []).getD 9 0) 99 = 3 := by decide +kernel
theorem kt_6_9 {kk a : Nat} (hk : 93 ≤ kk) (h : jSk (jRx kk) a = 6) : jSk (jRx kk) (jSr jR0 a 9) = 3 := by
  obtain ⟨h1, h2⟩ := jRx_big h (by decide)
  obtain ⟨h3, h4⟩ := kt_6_90 a h1 h2
  exact (if_pos (Nat.lt_of_lt_of_le h3 hk)).trans h4
theorem kt_6_100 : ∀ a, a < 105 → jk0l.getD a 99 = 6 → (jr0l.getD a []).getD 10 0 < 93 ∧ jk0l.getD ((jr0l.getD a []).getD 10 0) 99 = 3 := by decide +kernel
theorem kt_6_10 {kk a : Nat} (hk : 93 ≤ kk) (h : jSk (jRx kk) a = 6) : jSk (jRx kk) (jSr jR0 a 10) = 3 := by
  obtain ⟨h1, h2⟩ := jRx_big h (by decide)
  obtain ⟨h3, h4⟩ := kt_6_100 a h1 h2
  exact (if_pos (Nat.lt_of_lt_of_le h3 hk)).trans h4
theorem kt_6_110 : ∀ a, a < 105 → jk0l.getD a 99 = 6 → (jr0l.getD a []).getD 11 0 < 93 ∧ jk0l.getD ((jr0l.getD a []).getD 11 0) 99 = 8 := by decide +kernel
theorem kt_6_11 {kk a : Nat} (hk : 93 ≤ kk) (h : jSk (jRx kk) a = 6) : jSk (jRx kk) (jSr jR0 a 11) = 8 := by
  obtain ⟨h1, h2⟩ := jRx_big h (by decide)
  obtain ⟨h3, h4⟩ := kt_6_110 a h1 h2
  exact (if_pos (Nat.lt_of_lt_of_le h3 hk)).trans h4
theorem kt_6_120 : ∀ a, a < 105 → jk0l.getD a 99 = 6 → (jr0l.getD a []).getD 12 0 < 93 ∧ jk0l.getD ((jr0l.getD a []).getD 12 0) 99 = 3 := by decide +kernel
theorem kt_6_12 {kk a : Nat} (hk : 93 ≤ kk) (h : jSk (jRx kk) a = 6) : jSk (jRx kk) (jSr jR0 a 12) = 3 := by
  obtain ⟨h1, h2⟩ := jRx_big h (by decide)
  obtain ⟨h3, h4⟩ := kt_6_120 a h1 h2
  exact (if_pos (Nat.lt_of_lt_of_le h3 hk)).trans h4
theorem kt_6_130 : ∀ a, a < 105 → jk0l.getD a 99 = 6 → (jr0l.getD a []).getD 13 0 < 93 ∧ jk0l.getD ((jr0l.getD a []).getD 13 0) 99 = 3 := by decide +kernel
theorem kt_6_13 {kk a : Nat} (hk : 93 ≤ kk) (h : jSk (jRx kk) a = 6) : jSk (jRx kk) (jSr jR0 a 13) = 3 := by
  obtain ⟨h1, h2⟩ := jRx_big h (by decide)
  obtain ⟨h3, h4⟩ := kt_6_130 a h1 h2
  exact (if_pos (Nat.lt_of_lt_of_le h3 hk)).trans h4
theorem kt_6_140 : ∀ a, a < 105 → jk0l.getD a 99 = 6 → (jr0l.getD a []).getD 14 0 < 93 ∧ jk0l.getD ((jr0l.getD a []).getD 14 0) 99 = 3 := by decide +kernel
theorem kt_6_14 {kk a : Nat} (hk : 93 ≤ kk) (h : jSk (jRx kk) a = 6) : jSk (jRx kk) (jSr jR0 a 14) = 3 := by
  obtain ⟨h1, h2⟩ := jRx_big h (by decide)
  obtain ⟨h3, h4⟩ := kt_6_140 a h1 h2
  exact (if_pos (Nat.lt_of_lt_of_le h3 hk)).trans h4
theorem kt_6_150 : ∀ a, a < 105 → jk0l.getD a 99 = 6 → (jr0l.getD a []).getD 15 0 < 93 ∧ jk0l.getD ((jr0l.getD a []).getD 15 0) 99 = 3 := by decide +kernel
theorem kt_6_15 {kk a : Nat} (hk : 93 ≤ kk) (h : jSk (jRx kk) a = 6) : jSk (jRx kk) (jSr jR0 a 15) = 3 := by
  obtain ⟨h1, h2⟩ := jRx_big h (by decide)
  obtain ⟨h3, h4⟩ := kt_6_150 a h1 h2
  exact (if_pos (Nat.lt_of_lt_of_le h3 hk)).trans h4
theorem kt_6_160 : ∀ a, a < 105 → jk0l.getD a 99 = 6 → (jr0l.getD a []).getD 16 0 < 93 ∧ jk0l.getD ((jr0l.getD a []).getD 16 0) 99 = 3 := by decide +kernel
theorem kt_6_16 {kk a : Nat} (hk : 93 ≤ kk) (h : jSk (jRx kk) a = 6) : jSk (jRx kk) (jSr jR0 a 16) = 3 := by
  obtain ⟨h1, h2⟩ := jRx_big h (by decide)
  obtain ⟨h3, h4⟩ := kt_6_160 a h1 h2
  exact (if_pos (Nat.lt_of_lt_of_le h3 hk)).trans h4
theorem kt_6_170 : ∀ a, a < 105 → jk0l.getD a 99 = 6 → (jr0l.getD a []).getD 17 0 < 93 ∧ jk0l.getD ((jr0l.getD a []).getD 17 0) 99 = 3 := by decide +kernel
theorem kt_6_17 {kk a : Nat} (hk : 93 ≤ kk) (h : jSk (jRx kk) a = 6) : jSk (jRx kk) (jSr jR0 a 17) = 3 := by
  obtain ⟨h1, h2⟩ := jRx_big h (by decide)
  obtain ⟨h3, h4⟩ := kt_6_170 a h1 h2
  exact (if_pos (Nat.lt_of_lt_of_le h3 hk)).trans h4
theorem kt_6_180 : ∀ a, a < 105 → jk0l.getD a 99 = 6 → (jr0l.getD a []).getD 18 0 < 93 ∧ jk0l.getD ((jr0l.getD a []).getD 18 0) 99 = 3 := by decide +kernel
theorem kt_6_18 {kk a : Nat} (hk : 93 ≤ kk) (h : jSk (jRx kk) a = 6) : jSk (jRx kk) (jSr jR0 a 18) = 3 := by
  obtain ⟨h1, h2⟩ := jRx_big h (by decide)
  obtain ⟨h3, h4⟩ := kt_6_180 a h1 h2
  exact (if_pos (Nat.lt_of_lt_of_le h3 hk)).trans h4
theorem kt_7_00 : ∀ a, a < 105 → jk0l.getD a 99 = 7 → (jr0l.getD a []).getD 0 0 < 93 ∧ jk0l.getD ((jr0l.getD a []).getD 0 0) 99 = 3 := by decide +kernel
theorem kt_7_0 {kk a : Nat} (hk : 93 ≤ kk) (h : jSk (jRx kk) a = 7) : jSk (jRx kk) (jSr jR0 a 0) = 3 := by
  obtain ⟨h1, h2⟩ := jRx_big h (by decide)
  obtain ⟨h3, h4⟩ := kt_7_00 a h1 h2
  exact (if_pos (Nat.lt_of_lt_of_le h3 hk)).trans h4
theorem kt_7_10 : ∀ a, a < 105 → jk0l.getD a 99 = 7 → (jr0l.getD a []).getD 1 0 < 93 ∧ jk0l.getD ((jr0l.getD a []).getD 1 0) 99 = 3 := by decide +kernel
theorem kt_7_1 {kk a : Nat} (hk : 93 ≤ kk) (h : jSk (jRx kk) a = 7) : jSk (jRx kk) (jSr jR0 a 1) = 3 := by
  obtain ⟨h1, h2⟩ := jRx_big h (by decide)
  obtain ⟨h3, h4⟩ := kt_7_10 a h1 h2
  exact (if_pos (Nat.lt_of_lt_of_le h3 hk)).trans h4
theorem kt_8_00 : ∀ a, a < 105 → jk0l.getD a 99 = 8 → (jr0l.getD a []).getD 0 0 < 93 ∧ jk0l.getD ((jr0l.getD a []).getD 0 0) 99 = 3 := by decide +kernel
theorem kt_8_0 {kk a : Nat} (hk : 93 ≤ kk) (h : jSk (jRx kk) a = 8) : jSk (jRx kk) (jSr jR0 a 0) = 3 := by
  obtain ⟨h1, h2⟩ := jRx_big h (by decide)
  obtain ⟨h3, h4⟩ := kt_8_00 a h1 h2
  exact (if_pos (Nat.lt_of_lt_of_le h3 hk)).trans h4
theorem kt_8_10 : ∀ a, a < 105 → jk0l.getD a 99 = 8 → (jr0l.getD a []).getD 1 0 < 93 ∧ jk0l.getD ((jr0l.getD a []).getD 1 0) 99 = 3 := by decide +kernel
theorem kt_8_1 {kk a : Nat} (hk : 93 ≤ kk) (h : jSk (jRx kk) a = 8) : jSk (jRx kk) (jSr jR0 a 1) = 3 := by
  obtain ⟨h1, h2⟩ := jRx_big h (by decide)
  obtain ⟨h3, h4⟩ := kt_8_10 a h1 h2
  exact (if_pos (Nat.lt_of_lt_of_le h3 hk)).trans h4
theorem kt_8_20 : ∀ a, a < 105 → jk0l.getD a 99 = 8 → (jr0l.getD a []).getD 2 0 < 93 ∧ jk0l.getD ((jr0l.getD a []).getD 2 0) 99 = 3 := by decide +kernel
theorem kt_8_2 {kk a : Nat} (hk : 93 ≤ kk) (h : jSk (jRx kk) a = 8) : jSk (jRx kk) (jSr jR0 a 2) = 3 := by
  obtain ⟨h1, h2⟩ := jRx_big h (by decide)
  obtain ⟨h3, h4⟩ := kt_8_20 a h1 h2
  exact (if_pos (Nat.lt_of_lt_of_le h3 hk)).trans h4
theorem kt_8_30 : ∀ a, a < 105 → jk0l.getD a 99 = 8 → (jr0l.getD a []).getD 3 0 < 93 ∧ jk0l.getD ((jr0l.getD a []).getD 3 0) 99 = 20 := by decide +kernel
theorem kt_8_3 {kk a : Nat} (hk : 93 ≤ kk) (h : jSk (jRx kk) a = 8) : jSk (jRx kk) (jSr jR0 a 3) = 20 := by
  obtain ⟨h1, h2⟩ := jRx_big h (by decide)
  obtain ⟨h3, h4⟩ := kt_8_30 a h1 h2
  exact (if_pos (Nat.lt_of_lt_of_le h3 hk)).trans h4
theorem kt_9_00 : ∀ a, a < 105 → jk0l.getD a 99 = 9 → (jr0l.getD a []).getD 0 0 < 93 ∧ jk0l.getD ((jr0l.getD a []).getD 0 0) 99 = 6 := by decide +kernel
theorem kt_9_0 {kk a : Nat} (hk : 93 ≤ kk) (h : jSk (jRx kk) a = 9) : jSk (jRx kk) (jSr jR0 a 0) = 6 := by
  obtain ⟨h1, h2⟩ := jRx_big h (by decide)
  obtain ⟨h3, h4⟩ := kt_9_00 a h1 h2
  exact (if_pos (Nat.lt_of_lt_of_le h3 hk)).trans h4
theorem kt_9_10 : ∀ a, a < 105 → jk0l.getD a 99 = 9 → (jr0l.getD a []).getD 1 0 < 93 ∧ jk0l.getD ((jr0l.getD a []).getD 1 0) 99 = 6 := by decide +kernel
theorem kt_9_1 {kk a : Nat} (hk : 93 ≤ kk) (h : jSk (jRx kk) a = 9) : jSk (jRx kk) (jSr jR0 a 1) = 6 := by
  obtain ⟨h1, h2⟩ := jRx_big h (by decide)
  obtain ⟨h3, h4⟩ := kt_9_10 a h1 h2
  exact (if_pos (Nat.lt_of_lt_of_le h3 hk)).trans h4
theorem kt_9_20 : ∀ a, a < 105 → jk0l.getD a 99 = 9 → (jr0l.getD a []).getD 2 0 < 93 ∧ jk0l.getD ((jr0l.getD a []).getD 2 0) 99 = 2 := by decide +kernel
theorem kt_9_2 {kk a : Nat} (hk : 93 ≤ kk) (h : jSk (jRx kk) a = 9) : jSk (jRx kk) (jSr jR0 a 2) = 2 := by
  obtain ⟨h1, h2⟩ := jRx_big h (by decide)
  obtain ⟨h3, h4⟩ := kt_9_20 a h1 h2
  exact (if_pos (Nat.lt_of_lt_of_le h3 hk)).trans h4
theorem kt_9_30 : ∀ a, a < 105 → jk0l.getD a 99 = 9 → (jr0l.getD a []).getD 3 0 < 93 ∧ jk0l.getD ((jr0l.getD a []).getD 3 0) 99 = 1 := by decide +kernel
theorem kt_9_3 {kk a : Nat} (hk : 93 ≤ kk) (h : jSk (jRx kk) a = 9) : jSk (jRx kk) (jSr jR0 a 3) = 1 := by
  obtain ⟨h1, h2⟩ := jRx_big h (by decide)
  obtain ⟨h3, h4⟩ := kt_9_30 a h1 h2
  exact (if_pos (Nat.lt_of_lt_of_le h3 hk)).trans h4
theorem kt_9_40 : ∀ a, a < 105 → jk0l.getD a 99 = 9 → (jr0l.getD a []).getD 4 0 < 93 ∧ jk0l.getD ((jr0l.getD a []).getD 4 0) 99 = 0 := by decide +kernel
theorem kt_9_4 {kk a : Nat} (hk : 93 ≤ kk) (h : jSk (jRx kk) a = 9) : jSk (jRx kk) (jSr jR0 a 4) = 0 := by
  obtain ⟨h1, h2⟩ := jRx_big h (by decide)
  obtain ⟨h3, h4⟩ := kt_9_40 a h1 h2
  exact (if_pos (Nat.lt_of_lt_of_le h3 hk)).trans h4
theorem kt_9_50 : ∀ a, a < 105 → jk0l.getD a 99 = 9 → (jr0l.getD a []).getD 5 0 < 93 ∧ jk0l.getD ((jr0l.getD a []).getD 5 0) 99 = 5 := by decide +kernel
theorem kt_9_5 {kk a : Nat} (hk : 93 ≤ kk) (h : jSk (jRx kk) a = 9) : jSk (jRx kk) (jSr jR0 a 5) = 5 := by
  obtain ⟨h1, h2⟩ := jRx_big h (by decide)
  obtain ⟨h3, h4⟩ := kt_9_50 a h1 h2
  exact (if_pos (Nat.lt_of_lt_of_le h3 hk)).trans h4
theorem kt_9_60 : ∀ a, a < 105 → jk0l.getD a 99 = 9 → (jr0l.getD a []).getD 6 0 < 93 ∧ jk0l.getD ((jr0l.getD a []).getD 6 0) 99 = 4 := by decide +kernel
theorem kt_9_6 {kk a : Nat} (hk : 93 ≤ kk) (h : jSk (jRx kk) a = 9) : jSk (jRx kk) (jSr jR0 a 6) = 4 := by
  obtain ⟨h1, h2⟩ := jRx_big h (by decide)
  obtain ⟨h3, h4⟩ := kt_9_60 a h1 h2
  exact (if_pos (Nat.lt_of_lt_of_le h3 hk)).trans h4
def jfu : Nat := 30000
def jlw {β : Type} (w : jW) (k : jW → β) : β := k w
theorem jlw_c {β : Type} {W : jW} {k : jW → Option β} {z : β} {P : jW → Prop} (h : jlw W k = some z) (H : ∀ w, k w = some z → P w) : P W := H W h
theorem jgd {β : Type} {g : Bool} {x : Option β} {z : β} (h : (if g = true then x else none) = some z) : g = true ∧ x = some z := by
  by_cases c : g = true
  · rw [if_pos c] at h; exact ⟨c, h⟩
  · rw [if_neg c] at h; cases h
theorem jpos {β : Type} {c : Prop} [Decidable c] {x y : Option β} {z : β} (q : c) (h : (if c then x else y) = some z) : x = some z := by rwa [if_pos q] at h
theorem jneg {β : Type} {c : Prop} [Decidable c] {x y : Option β} {z : β} (q : ¬ c) (h : (if c then x else y) = some z) : y = some z := by rwa [if_neg q] at h
theorem jbe {α β : Type} {x : Option α} {k : α → Option β} {z : β} (h : Option.bind x k = some z) : ∃ q, x = some q ∧ k q = some z := by
  cases x with
  | none => cases h
  | some q => exact ⟨q, rfl, h⟩
def jmask : List Bool → List (Option Value) → List (Option Value)
  | true :: m, x :: t => x :: jmask m t
  | false :: m, _ :: t => none :: jmask m t
  | _, _ => []
theorem jmask_len : ∀ (m : List Bool) (L : List (Option Value)), (jmask m L).length ≤ L.length
  | [], L => Nat.zero_le _
  | true :: m, [] => Nat.zero_le _
  | false :: m, [] => Nat.zero_le _
  | true :: m, x :: t => Nat.succ_le_succ (jmask_len m t)
  | false :: m, x :: t => Nat.succ_le_succ (jmask_len m t)
theorem jmask_get : ∀ (m : List Bool) (L : List (Option Value)) (i : Nat) (v : Value), (jmask m L)[i]? = some (some v) → L[i]? = some (some v)
  | [], L, i, v, h => by simp [jmask] at h
  | true :: m, [], i, v, h => by simp [jmask] at h
  | false :: m, [], i, v, h => by simp [jmask] at h
  | true :: m, x :: t, 0, v, h => by simpa [jmask] using h
  | false :: m, x :: t, 0, v, h => by simp [jmask] at h
  | true :: m, x :: t, i + 1, v, h => by
    simp only [jmask, List.getElem?_cons_succ] at h ⊢
    exact jmask_get m t i v h
  | false :: m, x :: t, i + 1, v, h => by
    simp only [jmask, List.getElem?_cons_succ] at h ⊢
    exact jmask_get m t i v h
theorem ev_mask {l : Launch} {G : jG} {R : Room} {y : jM} {res : Option Value × jS × jW} {mc ms c0 s0 pc : Nat} {L : List (Option Value)} {st : List Value} {r : jS} {w : jW} (m : List Bool) (k : Ev l G R y res mc ms c0 s0 pc (jmask m L) st r w) : Ev l G R y res mc ms c0 s0 pc L st r w := by
  intro p e s mm args below meth c H locs ls hx hb hn hr hlk ho hts hnm hK hW hlo hL
  exact k p e s mm args below meth c H locs ls hx hb hn hr hlk ho hts hnm hK hW hlo ⟨hL.1, Nat.le_trans (jmask_len m L) hL.2.1, hL.2.2.1, fun i v h => hL.2.2.2 i v (jmask_get m L i v h)⟩

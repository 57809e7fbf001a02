/-! THE LAYOUT behind the constructors: shapes and references, by number -/
def NC : Nat := 175
def shL : List Nat := [0, 7, 5, 4004, 1064, 1, 2, 1020, 1020, 1020, 1020, 1064, 3, 1016, 1016, 2016, 1016, 1016, 1016, 2016, 1064, 3, 1016, 1016, 2016, 1016, 1016, 1016, 2016, 1064, 3, 1016, 1016, 2016, 1016, 1016, 1016, 2016, 1064, 3, 1016, 1016, 2016, 1016, 1016, 1016, 2016, 1064, 5, 4004, 1064, 1, 2, 1020, 1020, 1020, 1020, 1064, 3, 1016, 1016, 2016, 1016, 1016, 1016, 2016, 1064, 3, 1016, 1016, 2016, 1016, 1016, 1016, 2016, 1064, 3, 1016, 1016, 2016, 1016, 1016, 1016, 2016, 1064, 3, 1016, 1016, 2016, 1016, 1016, 1016, 2016, 1064, 5, 4004, 1064, 1, 2, 1020, 1020, 1020, 1020, 1064, 3, 1016, 1016, 2016, 1016, 1016, 1016, 2016, 1064, 3, 1016, 1016, 2016, 1016, 1016, 1016, 2016, 1064, 3, 1016, 1016, 2016, 1016, 1016, 1016, 2016, 1064, 3, 1016, 1016, 2016, 1016, 1016, 1016, 2016, 1064, 6, 1250, 1030, 1030, 1030, 5008, 1005, 1040, 4, 3040, 4, 3040, 4, 3040, 4, 3040, 4, 3040, 4, 3040, 4, 3040, 4, 3040, 8, 1784, 1784, 1784, 1005, 1250, 1008, 1008, 3320, 3040, 2064, 1016]
def rfL : List (List Nat) := [[], [2, 48, 94, 0, 140, 145, 146, 147], [3, 0, 4, 0, 0, 0, 0, 0, 0, 0, 0, 0, 0, 0, 5, 6, 0, 0], [12, 21, 30, 39], [], [0, 0], [7, 8, 9, 10, 11], [], [], [], [], [], [0, 0, 0, 0, 0, 0, 0, 0, 0, 0, 0, 13, 14, 15, 16, 17, 18, 19, 20], [], [], [], [], [], [], [], [], [0, 0, 0, 0, 0, 0, 0, 0, 0, 0, 0, 22, 23, 24, 25, 26, 27, 28, 29], [], [], [], [], [], [], [], [], [0, 0, 0, 0, 0, 0, 0, 0, 0, 0, 0, 31, 32, 33, 34, 35, 36, 37, 38], [], [], [], [], [], [], [], [], [0, 0, 0, 0, 0, 0, 0, 0, 0, 0, 0, 40, 41, 42, 43, 44, 45, 46, 47], [], [], [], [], [], [], [], [], [49, 0, 50, 0, 0, 0, 0, 0, 0, 0, 0, 0, 0, 0, 51, 52, 0, 0], [58, 67, 76, 85], [], [0, 0], [53, 54, 55, 56, 57], [], [], [], [], [], [0, 0, 0, 0, 0, 0, 0, 0, 0, 0, 0, 59, 60, 61, 62, 63, 64, 65, 66], [], [], [], [], [], [], [], [], [0, 0, 0, 0, 0, 0, 0, 0, 0, 0, 0, 68, 69, 70, 71, 72, 73, 74, 75], [], [], [], [], [], [], [], [], [0, 0, 0, 0, 0, 0, 0, 0, 0, 0, 0, 77, 78, 79, 80, 81, 82, 83, 84], [], [], [], [], [], [], [], [], [0, 0, 0, 0, 0, 0, 0, 0, 0, 0, 0, 86, 87, 88, 89, 90, 91, 92, 93], [], [], [], [], [], [], [], [], [95, 0, 96, 0, 0, 0, 0, 0, 0, 0, 0, 0, 0, 0, 97, 98, 0, 0], [104, 113, 122, 131], [], [0, 0], [99, 100, 101, 102, 103], [], [], [], [], [], [0, 0, 0, 0, 0, 0, 0, 0, 0, 0, 0, 105, 106, 107, 108, 109, 110, 111, 112], [], [], [], [], [], [], [], [], [0, 0, 0, 0, 0, 0, 0, 0, 0, 0, 0, 114, 115, 116, 117, 118, 119, 120, 121], [], [], [], [], [], [], [], [], [0, 0, 0, 0, 0, 0, 0, 0, 0, 0, 0, 123, 124, 125, 126, 127, 128, 129, 130], [], [], [], [], [], [], [], [], [0, 0, 0, 0, 0, 0, 0, 0, 0, 0, 0, 132, 133, 134, 135, 136, 137, 138, 139], [], [], [], [], [], [], [], [], [0, 0, 141, 142, 143, 144, 0, 0], [], [], [], [], [148, 150, 152, 154, 156, 158, 160, 162], [], [], [0, 0, 0, 149], [], [0, 0, 0, 151], [], [0, 0, 0, 153], [], [0, 0, 0, 155], [], [0, 0, 0, 157], [], [0, 0, 0, 159], [], [0, 0, 0, 161], [], [0, 0, 0, 163], [], [165, 166, 167, 0, 168, 0, 0, 169, 0, 0, 0, 170, 171, 172, 173, 174, 0, 0, 0, 175], [], [], [], [], [], [], [], [], [], [], []]
def shC : jS := fun r => shL.getD r 0
def rfC : jR := fun r k => (rfL.getD r []).getD k 0
theorem shC_out {r : Nat} (h : NC < r) : shC r = 0 := by
  unfold shC
  rw [List.getD_eq_getElem?_getD, List.getElem?_eq_none (by rw [show shL.length = NC + 1 from by decide +kernel]; omega)]
  rfl
theorem shC_all {c : Nat} {P : Nat → Prop} (hc : c ≠ 0) (h : ∀ r, r < NC + 1 → shC r = c → P r) : ∀ r, shC r = c → P r := by
  intro r hr
  by_cases hl : r < NC + 1
  · exact h r hl hr
  · rw [shC_out (by omega)] at hr
    exact absurd hr.symm hc
theorem es_4004 : ∀ a, shC a = 4004 → ∀ j, j < 4 → shC (rfC a j) = 3 := shC_all (by decide) (by decide +kernel)
theorem es_5008 : ∀ a, shC a = 5008 → ∀ j, j < 8 → shC (rfC a j) = 4 := shC_all (by decide) (by decide +kernel)
theorem fs_1_0 : ∀ r, shC r = 2 → shC (rfC r 0) = 1020 := shC_all (by decide) (by decide +kernel)
theorem fs_1_1 : ∀ r, shC r = 2 → shC (rfC r 1) = 1020 := shC_all (by decide) (by decide +kernel)
theorem fs_1_2 : ∀ r, shC r = 2 → shC (rfC r 2) = 1020 := shC_all (by decide) (by decide +kernel)
theorem fs_1_3 : ∀ r, shC r = 2 → shC (rfC r 3) = 1020 := shC_all (by decide) (by decide +kernel)
theorem fs_1_4 : ∀ r, shC r = 2 → shC (rfC r 4) = 1064 := shC_all (by decide) (by decide +kernel)
theorem fs_2_11 : ∀ r, shC r = 3 → shC (rfC r 11) = 1016 := shC_all (by decide) (by decide +kernel)
theorem fs_2_12 : ∀ r, shC r = 3 → shC (rfC r 12) = 1016 := shC_all (by decide) (by decide +kernel)
theorem fs_2_13 : ∀ r, shC r = 3 → shC (rfC r 13) = 2016 := shC_all (by decide) (by decide +kernel)
theorem fs_2_14 : ∀ r, shC r = 3 → shC (rfC r 14) = 1016 := shC_all (by decide) (by decide +kernel)
theorem fs_2_15 : ∀ r, shC r = 3 → shC (rfC r 15) = 1016 := shC_all (by decide) (by decide +kernel)
theorem fs_2_16 : ∀ r, shC r = 3 → shC (rfC r 16) = 1016 := shC_all (by decide) (by decide +kernel)
theorem fs_2_17 : ∀ r, shC r = 3 → shC (rfC r 17) = 2016 := shC_all (by decide) (by decide +kernel)
theorem fs_2_18 : ∀ r, shC r = 3 → shC (rfC r 18) = 1064 := shC_all (by decide) (by decide +kernel)
theorem fs_3_3 : ∀ r, shC r = 4 → shC (rfC r 3) = 3040 := shC_all (by decide) (by decide +kernel)
theorem fs_4_0 : ∀ r, shC r = 5 → shC (rfC r 0) = 4004 := shC_all (by decide) (by decide +kernel)
theorem fs_4_14 : ∀ r, shC r = 5 → shC (rfC r 14) = 1 := shC_all (by decide) (by decide +kernel)
theorem fs_4_15 : ∀ r, shC r = 5 → shC (rfC r 15) = 2 := shC_all (by decide) (by decide +kernel)
theorem fs_4_2 : ∀ r, shC r = 5 → shC (rfC r 2) = 1064 := shC_all (by decide) (by decide +kernel)
theorem fs_5_2 : ∀ r, shC r = 6 → shC (rfC r 2) = 1250 := shC_all (by decide) (by decide +kernel)
theorem fs_5_3 : ∀ r, shC r = 6 → shC (rfC r 3) = 1030 := shC_all (by decide) (by decide +kernel)
theorem fs_5_4 : ∀ r, shC r = 6 → shC (rfC r 4) = 1030 := shC_all (by decide) (by decide +kernel)
theorem fs_5_5 : ∀ r, shC r = 6 → shC (rfC r 5) = 1030 := shC_all (by decide) (by decide +kernel)
theorem fs_6_0 : ∀ r, shC r = 7 → shC (rfC r 0) = 5 := shC_all (by decide) (by decide +kernel)
theorem fs_6_1 : ∀ r, shC r = 7 → shC (rfC r 1) = 5 := shC_all (by decide) (by decide +kernel)
theorem fs_6_2 : ∀ r, shC r = 7 → shC (rfC r 2) = 5 := shC_all (by decide) (by decide +kernel)
theorem fs_6_4 : ∀ r, shC r = 7 → shC (rfC r 4) = 6 := shC_all (by decide) (by decide +kernel)
theorem fs_6_5 : ∀ r, shC r = 7 → shC (rfC r 5) = 5008 := shC_all (by decide) (by decide +kernel)
theorem fs_6_6 : ∀ r, shC r = 7 → shC (rfC r 6) = 1005 := shC_all (by decide) (by decide +kernel)
theorem fs_6_7 : ∀ r, shC r = 7 → shC (rfC r 7) = 1040 := shC_all (by decide) (by decide +kernel)
theorem fs_7_0 : ∀ r, shC r = 8 → shC (rfC r 0) = 1784 := shC_all (by decide) (by decide +kernel)
theorem fs_7_1 : ∀ r, shC r = 8 → shC (rfC r 1) = 1784 := shC_all (by decide) (by decide +kernel)
theorem fs_7_11 : ∀ r, shC r = 8 → shC (rfC r 11) = 1008 := shC_all (by decide) (by decide +kernel)
theorem fs_7_12 : ∀ r, shC r = 8 → shC (rfC r 12) = 1008 := shC_all (by decide) (by decide +kernel)
theorem fs_7_13 : ∀ r, shC r = 8 → shC (rfC r 13) = 3320 := shC_all (by decide) (by decide +kernel)
theorem fs_7_14 : ∀ r, shC r = 8 → shC (rfC r 14) = 3040 := shC_all (by decide) (by decide +kernel)
theorem fs_7_15 : ∀ r, shC r = 8 → shC (rfC r 15) = 2064 := shC_all (by decide) (by decide +kernel)
theorem fs_7_19 : ∀ r, shC r = 8 → shC (rfC r 19) = 1016 := shC_all (by decide) (by decide +kernel)
theorem fs_7_2 : ∀ r, shC r = 8 → shC (rfC r 2) = 1784 := shC_all (by decide) (by decide +kernel)
theorem fs_7_4 : ∀ r, shC r = 8 → shC (rfC r 4) = 1005 := shC_all (by decide) (by decide +kernel)
theorem fs_7_7 : ∀ r, shC r = 8 → shC (rfC r 7) = 1250 := shC_all (by decide) (by decide +kernel)
set_option maxRecDepth 20000 in
theorem inX0 : ∀ w ∈ u_ws RX0 TX0 2, w ∈ wsU := by decide +kernel
set_option maxRecDepth 20000 in
theorem inX1 : ∀ w ∈ u_ws RX1 TX1 5, w ∈ wsU := by decide +kernel
set_option maxRecDepth 20000 in
theorem inX2 : ∀ w ∈ u_ws RX2 TX2 19, w ∈ wsU := by decide +kernel
set_option maxRecDepth 20000 in
theorem inX3 : ∀ w ∈ u_ws RX3 TX3 4, w ∈ wsU := by decide +kernel
set_option maxRecDepth 20000 in
theorem inX4 : ∀ w ∈ u_ws RX4 TX4 18, w ∈ wsU := by decide +kernel
set_option maxRecDepth 20000 in
theorem inX5 : ∀ w ∈ u_ws RX5 TX5 8, w ∈ wsU := by decide +kernel
set_option maxRecDepth 20000 in
theorem inX6 : ∀ w ∈ u_ws RX6 TX6 8, w ∈ wsU := by decide +kernel
set_option maxRecDepth 20000 in
theorem inX7 : ∀ w ∈ u_ws RX7 TX7 20, w ∈ wsU := by decide +kernel

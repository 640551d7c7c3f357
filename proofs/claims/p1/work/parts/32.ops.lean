/-! the numbers of the switch, one by one: by pieces, each by the forced run -/
theorem op_1 : ack (atryS (aK 1)) [[0, 1, 2, 3, 4, 5, 6, 7, 8, 9, 10, 11, 12, 13, 14, 15, 16], [0, 1, 2, 3, 4, 5, 6, 7, 8, 9]] [] = true := by decide +kernel
theorem oq_1 (x0 : Int32) (b : List Int32) (hb : b.length = 5) : jgo1 (Int32.ofInt 1) (x0 :: b) := ack5 (z := aK 1) ⟨by decide, by decide⟩ (by rw [← atryS_eq]; exact op_1) (by decide) x0 b hb
theorem op_2 : ack (atryS (aK 2)) [[0, 1, 2, 3, 4, 5, 6, 7, 8, 9, 10, 11, 12, 13, 14, 15, 16], [0, 1, 2, 3, 4, 5, 6, 7]] [] = true := by decide +kernel
theorem oq_2 (x0 : Int32) (b : List Int32) (hb : b.length = 5) : jgo1 (Int32.ofInt 2) (x0 :: b) := ack5 (z := aK 2) ⟨by decide, by decide⟩ (by rw [← atryS_eq]; exact op_2) (by decide) x0 b hb
theorem op_3 : ack (atryS (aK 3)) [[0, 1, 2, 3, 4, 5, 6, 7, 8, 9, 10, 11, 12, 13, 14, 15, 16], [0, 1, 2, 3, 4, 5, 6, 7]] [] = true := by decide +kernel
theorem oq_3 (x0 : Int32) (b : List Int32) (hb : b.length = 5) : jgo1 (Int32.ofInt 3) (x0 :: b) := ack5 (z := aK 3) ⟨by decide, by decide⟩ (by rw [← atryS_eq]; exact op_3) (by decide) x0 b hb
theorem op_4 : ack (atryS (aK 4)) [[0, 1, 2, 3, 4, 5, 6, 7, 8, 9, 10, 11, 12, 13, 14, 15, 16], [0, 1, 2], [0, 100000]] [] = true := by decide +kernel
theorem oq_4 (x0 : Int32) (b : List Int32) (hb : b.length = 5) : jgo1 (Int32.ofInt 4) (x0 :: b) := ack5 (z := aK 4) ⟨by decide, by decide⟩ (by rw [← atryS_eq]; exact op_4) (by decide) x0 b hb
theorem op_5 : ack (atryS (aK 5)) [[0, 1, 2, 3, 4, 5, 6, 7, 8, 9, 10, 11, 12, 13, 14, 15, 16], [0]] [] = true := by decide +kernel
theorem oq_5 (x0 : Int32) (b : List Int32) (hb : b.length = 5) : jgo1 (Int32.ofInt 5) (x0 :: b) := ack5 (z := aK 5) ⟨by decide, by decide⟩ (by rw [← atryS_eq]; exact op_5) (by decide) x0 b hb
theorem op_7 : ack (atryS (aK 7)) [[0, 1, 2, 3, 4, 5, 6, 7, 8, 9, 10, 11, 12, 13, 14, 15, 16], [0, 1, 2, 3, 4, 5, 6, 7, 8, 9, 10, 11, 12, 13, 14, 15, 16], [0, 1, 2]] [] = true := by decide +kernel
theorem oq_7 (x0 : Int32) (b : List Int32) (hb : b.length = 5) : jgo1 (Int32.ofInt 7) (x0 :: b) := ack5 (z := aK 7) ⟨by decide, by decide⟩ (by rw [← atryS_eq]; exact op_7) (by decide) x0 b hb
theorem op_8 : ack (atryS (aK 8)) [[0, 1, 2, 3], [0, 1, 2, 3, 4, 5, 6, 7, 8, 9, 10, 11, 12, 13, 14, 15, 16], [0, 1, 2, 3, 4, 5, 6, 7, 8, 9, 10, 11, 12, 13, 14, 15, 16]] [] = true := by decide +kernel
theorem oq_8 (x0 : Int32) (b : List Int32) (hb : b.length = 5) : jgo1 (Int32.ofInt 8) (x0 :: b) := ack5 (z := aK 8) ⟨by decide, by decide⟩ (by rw [← atryS_eq]; exact op_8) (by decide) x0 b hb
theorem op_9 : ack (atryS (aK 9)) [[0, 1, 2, 3, 4, 5, 6, 7, 8, 9, 10, 11, 12, 13, 14, 15, 16], [0, 1, 2, 3, 4, 5, 6, 7, 8, 9, 10, 11, 12, 13, 14, 15, 16]] [] = true := by decide +kernel
theorem oq_9 (x0 : Int32) (b : List Int32) (hb : b.length = 5) : jgo1 (Int32.ofInt 9) (x0 :: b) := ack5 (z := aK 9) ⟨by decide, by decide⟩ (by rw [← atryS_eq]; exact op_9) (by decide) x0 b hb
theorem op_10 : ack (atryS (aK 10)) [[0, 1, 2, 3, 4, 5, 6, 7, 8, 9, 10, 11, 12, 13, 14, 15, 16]] [] = true := by decide +kernel
theorem oq_10 (x0 : Int32) (b : List Int32) (hb : b.length = 5) : jgo1 (Int32.ofInt 10) (x0 :: b) := ack5 (z := aK 10) ⟨by decide, by decide⟩ (by rw [← atryS_eq]; exact op_10) (by decide) x0 b hb
theorem op_11 : ack (atryS (aK 11)) [[0, 1, 2, 3, 4, 5, 6, 7, 8, 9, 10, 11, 12, 13, 14, 15, 16], [0, 1, 2, 3, 4, 5, 6, 7, 8, 9, 10, 11, 12, 13, 14, 15, 16]] [] = true := by decide +kernel
theorem oq_11 (x0 : Int32) (b : List Int32) (hb : b.length = 5) : jgo1 (Int32.ofInt 11) (x0 :: b) := ack5 (z := aK 11) ⟨by decide, by decide⟩ (by rw [← atryS_eq]; exact op_11) (by decide) x0 b hb
theorem op_12 : ack (atryS (aK 12)) [[], [], [1, 2, 3, 4, 5, 6, 7, 8, 9]] [] = true := by decide +kernel
theorem oq_12 (x0 : Int32) (b : List Int32) (hb : b.length = 5) : jgo1 (Int32.ofInt 12) (x0 :: b) := ack5 (z := aK 12) ⟨by decide, by decide⟩ (by rw [← atryS_eq]; exact op_12) (by decide) x0 b hb
theorem op_13 : ack (atryS (aK 13)) [[0, 1, 2, 3]] [] = true := by decide +kernel
theorem oq_13 (x0 : Int32) (b : List Int32) (hb : b.length = 5) : jgo1 (Int32.ofInt 13) (x0 :: b) := ack5 (z := aK 13) ⟨by decide, by decide⟩ (by rw [← atryS_eq]; exact op_13) (by decide) x0 b hb
theorem op_14 : ack (atryS (aK 14)) [[0, 1, 2, 3]] [] = true := by decide +kernel
theorem oq_14 (x0 : Int32) (b : List Int32) (hb : b.length = 5) : jgo1 (Int32.ofInt 14) (x0 :: b) := ack5 (z := aK 14) ⟨by decide, by decide⟩ (by rw [← atryS_eq]; exact op_14) (by decide) x0 b hb
theorem op_15 : ack (atryS (aK 15)) [[0, 1, 2, 3], [0, 1, 2, 3, 4, 5, 6, 7, 8, 9, 10, 11, 12, 13, 14, 15, 16, 17, 18, 19, 20, 21, 22, 23, 24, 25, 26, 27, 28, 29, 30, 31, 32, 33, 34, 35, 36, 37, 38, 39, 40, 41, 42, 43, 44, 45, 46, 47, 48, 49, 50, 51, 52, 53, 54, 55, 56, 57, 58, 59, 60, 61, 62, 63, 64, 65, 66, 67, 68, 69, 70, 71, 72, 73, 74, 75, 76, 77, 78, 79, 80, 81, 82, 83, 84, 85, 86, 87, 88, 89, 90, 91, 92, 93, 94, 95, 96, 97, 98, 99, 100, 1000]] [] = true := by decide +kernel
theorem oq_15 (x0 : Int32) (b : List Int32) (hb : b.length = 5) : jgo1 (Int32.ofInt 15) (x0 :: b) := ack5 (z := aK 15) ⟨by decide, by decide⟩ (by rw [← atryS_eq]; exact op_15) (by decide) x0 b hb
theorem op_16 : ack (atryS (aK 16)) [[0, 1, 2, 3, 4, 5, 6, 7, 8, 9, 10, 11, 12, 13, 14, 15, 16], [0, 1, 2, 3, 4, 5, 6, 7, 8, 9, 10, 11, 12, 13, 14, 15, 16]] [] = true := by decide +kernel
theorem oq_16 (x0 : Int32) (b : List Int32) (hb : b.length = 5) : jgo1 (Int32.ofInt 16) (x0 :: b) := ack5 (z := aK 16) ⟨by decide, by decide⟩ (by rw [← atryS_eq]; exact op_16) (by decide) x0 b hb
theorem op_19 : ack (atryS (aK 19)) [[]] [] = true := by decide +kernel
theorem oq_19 (x0 : Int32) (b : List Int32) (hb : b.length = 5) : jgo1 (Int32.ofInt 19) (x0 :: b) := ack5 (z := aK 19) ⟨by decide, by decide⟩ (by rw [← atryS_eq]; exact op_19) (by decide) x0 b hb
theorem op_20 : ack (atryS (aK 20)) [[0, 1, 2, 3, 4, 5, 6]] [] = true := by decide +kernel
theorem oq_20 (x0 : Int32) (b : List Int32) (hb : b.length = 5) : jgo1 (Int32.ofInt 20) (x0 :: b) := ack5 (z := aK 20) ⟨by decide, by decide⟩ (by rw [← atryS_eq]; exact op_20) (by decide) x0 b hb
theorem op_21 : ack (atryS (aK 21)) [[0, 1, 2, 3, 4, 5, 6, 7, 8, 9, 10, 11, 12, 13, 14, 15, 16]] [] = true := by decide +kernel
theorem oq_21 (x0 : Int32) (b : List Int32) (hb : b.length = 5) : jgo1 (Int32.ofInt 21) (x0 :: b) := ack5 (z := aK 21) ⟨by decide, by decide⟩ (by rw [← atryS_eq]; exact op_21) (by decide) x0 b hb
theorem op_22 : ack (atryS (aK 22)) [[0, 61]] [] = true := by decide +kernel
theorem oq_22 (x0 : Int32) (b : List Int32) (hb : b.length = 5) : jgo1 (Int32.ofInt 22) (x0 :: b) := ack5 (z := aK 22) ⟨by decide, by decide⟩ (by rw [← atryS_eq]; exact op_22) (by decide) x0 b hb
theorem op_23 : ack (atryS (aK 23)) [[0, 61]] [] = true := by decide +kernel
theorem oq_23 (x0 : Int32) (b : List Int32) (hb : b.length = 5) : jgo1 (Int32.ofInt 23) (x0 :: b) := ack5 (z := aK 23) ⟨by decide, by decide⟩ (by rw [← atryS_eq]; exact op_23) (by decide) x0 b hb
theorem op_24 : ack (atryS (aK 24)) [[0, 1, 2, 3, 4]] [] = true := by decide +kernel
theorem oq_24 (x0 : Int32) (b : List Int32) (hb : b.length = 5) : jgo1 (Int32.ofInt 24) (x0 :: b) := ack5 (z := aK 24) ⟨by decide, by decide⟩ (by rw [← atryS_eq]; exact op_24) (by decide) x0 b hb
theorem op_25 : ack (atryS (aK 25)) [[0, 1, 2, 3, 4, 5, 6, 7, 8, 9, 10, 11, 12, 13, 14, 15, 16], [0, 1, 2, 3, 4, 5, 6, 7, 8, 9, 10, 11, 12, 13, 14, 15, 16]] [] = true := by decide +kernel
theorem oq_25 (x0 : Int32) (b : List Int32) (hb : b.length = 5) : jgo1 (Int32.ofInt 25) (x0 :: b) := ack5 (z := aK 25) ⟨by decide, by decide⟩ (by rw [← atryS_eq]; exact op_25) (by decide) x0 b hb
theorem op_26 : ack (atryS (aK 26)) [[1, 2, 3, 4, 5], [0, 1, 2, 3, 4, 5, 6, 7, 8, 9, 10, 11, 12, 13, 14, 15, 16]] [] = true := by decide +kernel
theorem oq_26 (x0 : Int32) (b : List Int32) (hb : b.length = 5) : jgo1 (Int32.ofInt 26) (x0 :: b) := ack5 (z := aK 26) ⟨by decide, by decide⟩ (by rw [← atryS_eq]; exact op_26) (by decide) x0 b hb
theorem op_27 : ack (atryS (aK 27)) [[0, 1, 2]] [] = true := by decide +kernel
theorem oq_27 (x0 : Int32) (b : List Int32) (hb : b.length = 5) : jgo1 (Int32.ofInt 27) (x0 :: b) := ack5 (z := aK 27) ⟨by decide, by decide⟩ (by rw [← atryS_eq]; exact op_27) (by decide) x0 b hb
theorem op_28 : ack (atryS (aK 28)) [[0, 1, 2, 3]] [] = true := by decide +kernel
theorem oq_28 (x0 : Int32) (b : List Int32) (hb : b.length = 5) : jgo1 (Int32.ofInt 28) (x0 :: b) := ack5 (z := aK 28) ⟨by decide, by decide⟩ (by rw [← atryS_eq]; exact op_28) (by decide) x0 b hb
theorem op_29 : ack (atryS (aK 29)) [[0, 1, 2, 3, 4, 5, 6, 7, 8, 9, 10, 11, 12, 13, 14, 15, 16], [0, 1, 2, 3, 4]] [] = true := by decide +kernel
theorem oq_29 (x0 : Int32) (b : List Int32) (hb : b.length = 5) : jgo1 (Int32.ofInt 29) (x0 :: b) := ack5 (z := aK 29) ⟨by decide, by decide⟩ (by rw [← atryS_eq]; exact op_29) (by decide) x0 b hb
theorem op_30 : ack (atryS (aK 30)) [[0]] [] = true := by decide +kernel
theorem oq_30 (x0 : Int32) (b : List Int32) (hb : b.length = 5) : jgo1 (Int32.ofInt 30) (x0 :: b) := ack5 (z := aK 30) ⟨by decide, by decide⟩ (by rw [← atryS_eq]; exact op_30) (by decide) x0 b hb
theorem op_31 : ack (atryS (aK 31)) [[0, 1, 2, 3, 4], [0, 1, 8, 9, 16, 17, 32, 33], [0, 25]] [] = true := by decide +kernel
theorem oq_31 (x0 : Int32) (b : List Int32) (hb : b.length = 5) : jgo1 (Int32.ofInt 31) (x0 :: b) := ack5 (z := aK 31) ⟨by decide, by decide⟩ (by rw [← atryS_eq]; exact op_31) (by decide) x0 b hb
theorem op_32 : ack (atryS (aK 32)) [[0, 1, 2, 3, 4]] [] = true := by decide +kernel
theorem oq_32 (x0 : Int32) (b : List Int32) (hb : b.length = 5) : jgo1 (Int32.ofInt 32) (x0 :: b) := ack5 (z := aK 32) ⟨by decide, by decide⟩ (by rw [← atryS_eq]; exact op_32) (by decide) x0 b hb
theorem op_33 : ack (atryS (aK 33)) [[0, 1, 2, 3, 4], [], [0, 1, 2, 3, 4]] [] = true := by decide +kernel
theorem oq_33 (x0 : Int32) (b : List Int32) (hb : b.length = 5) : jgo1 (Int32.ofInt 33) (x0 :: b) := ack5 (z := aK 33) ⟨by decide, by decide⟩ (by rw [← atryS_eq]; exact op_33) (by decide) x0 b hb
theorem op_34 : ack (atryS (aK 34)) [[0, 1, 2, 3, 4]] [] = true := by decide +kernel
theorem oq_34 (x0 : Int32) (b : List Int32) (hb : b.length = 5) : jgo1 (Int32.ofInt 34) (x0 :: b) := ack5 (z := aK 34) ⟨by decide, by decide⟩ (by rw [← atryS_eq]; exact op_34) (by decide) x0 b hb
theorem op_36 : ack (atryS (aK 36)) ([] : List (List Int)) [] = true := by decide +kernel
theorem oq_36 (x0 : Int32) (b : List Int32) (hb : b.length = 5) : jgo1 (Int32.ofInt 36) (x0 :: b) := ack5 (z := aK 36) ⟨by decide, by decide⟩ (by rw [← atryS_eq]; exact op_36) (by decide) x0 b hb
theorem op_37 : ack (atryS (aK 37)) [[]] [] = true := by decide +kernel
theorem oq_37 (x0 : Int32) (b : List Int32) (hb : b.length = 5) : jgo1 (Int32.ofInt 37) (x0 :: b) := ack5 (z := aK 37) ⟨by decide, by decide⟩ (by rw [← atryS_eq]; exact op_37) (by decide) x0 b hb
theorem op_38 : ack (atryS (aK 38)) [[0, 1, 2, 3, 4, 5, 6, 7, 8, 9, 10, 11, 12, 13, 14, 15, 16]] [] = true := by decide +kernel
theorem oq_38 (x0 : Int32) (b : List Int32) (hb : b.length = 5) : jgo1 (Int32.ofInt 38) (x0 :: b) := ack5 (z := aK 38) ⟨by decide, by decide⟩ (by rw [← atryS_eq]; exact op_38) (by decide) x0 b hb
theorem op_39 : ack (atryS (aK 39)) [[0, 1, 2, 3, 4, 5, 6, 7, 8]] [] = true := by decide +kernel
theorem oq_39 (x0 : Int32) (b : List Int32) (hb : b.length = 5) : jgo1 (Int32.ofInt 39) (x0 :: b) := ack5 (z := aK 39) ⟨by decide, by decide⟩ (by rw [← atryS_eq]; exact op_39) (by decide) x0 b hb
theorem op_40 : ack (atryS (aK 40)) [[1, 2, 3, 4, 5, 6, 7]] [] = true := by decide +kernel
theorem oq_40 (x0 : Int32) (b : List Int32) (hb : b.length = 5) : jgo1 (Int32.ofInt 40) (x0 :: b) := ack5 (z := aK 40) ⟨by decide, by decide⟩ (by rw [← atryS_eq]; exact op_40) (by decide) x0 b hb
theorem op_lo : atryS (-2147483648, -1) [] = true := by decide +kernel
theorem op_hi : atryS (41, 2147483647) [] = true := by decide +kernel
theorem oq_lo {z : Int32} (hz : z.toInt < 0) (x0 : Int32) (b : List Int32) (hb : b.length = 5) : jgo1 z (x0 :: b) := ack5 (z := (-2147483648, -1)) (cs := []) ⟨z.le_toInt, by show z.toInt ≤ -1; omega⟩ (by rw [← atryS_eq]; exact op_lo) (by decide) x0 b hb
theorem oq_hi {z : Int32} (hz : 40 < z.toInt) (x0 : Int32) (b : List Int32) (hb : b.length = 5) : jgo1 z (x0 :: b) := ack5 (z := (41, 2147483647)) (cs := []) ⟨by show (41 : Int) ≤ z.toInt; omega, by have := z.toInt_lt; show z.toInt ≤ 2147483647; omega⟩ (by rw [← atryS_eq]; exact op_hi) (by decide) x0 b hb

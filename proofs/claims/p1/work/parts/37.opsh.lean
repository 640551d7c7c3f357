/-! the numbers that the hands were for -/
theorem op_6 : ack (atryO (aK 6)) [[0, 1, 2, 3, 4, 5, 6, 7, 8, 9, 10, 11, 12, 13, 14, 15, 16], [0, 1, 2, 3, 4, 5, 6, 7, 8, 9, 10, 11, 12, 13, 14, 15, 16]] [] = true := by decide +kernel
theorem oq_6 (x0 : Int32) (b : List Int32) (hb : b.length = 5) : jgo1 (Int32.ofInt 6) (x0 :: b) := ackO5 (z := aK 6) ⟨by decide, by decide⟩ op_6 (by decide) x0 b hb
theorem op_17 : ack (atryO (aK 17)) [[1, 61]] [] = true := by decide +kernel
theorem oq_17 (x0 : Int32) (b : List Int32) (hb : b.length = 5) : jgo1 (Int32.ofInt 17) (x0 :: b) := ackO5 (z := aK 17) ⟨by decide, by decide⟩ op_17 (by decide) x0 b hb
theorem op_18 : ack (atryO (aK 18)) [[0, 17], [1, 61]] [] = true := by decide +kernel
theorem oq_18 (x0 : Int32) (b : List Int32) (hb : b.length = 5) : jgo1 (Int32.ofInt 18) (x0 :: b) := ackO5 (z := aK 18) ⟨by decide, by decide⟩ op_18 (by decide) x0 b hb
theorem op_35 : ack (atryO (aK 35)) ([] : List (List Int)) [] = true := by decide +kernel
theorem oq_35 (x0 : Int32) (b : List Int32) (hb : b.length = 5) : jgo1 (Int32.ofInt 35) (x0 :: b) := ackO5 (z := aK 35) ⟨by decide, by decide⟩ op_35 (by decide) x0 b hb

/-! foam, glass by glass -/
theorem of_11 : atryO (aK 0) [aK 1, aK 1, (0, 99999)] = true := by decide +kernel
theorem of_12 : atryO (aK 0) [aK 1, aK 2, (0, 99999)] = true := by decide +kernel
theorem of_13 : atryO (aK 0) [aK 1, aK 3, (0, 99999)] = true := by decide +kernel
theorem of_14 : atryO (aK 0) [aK 1, aK 4, (0, 99999)] = true := by decide +kernel
theorem of_21 : atryO (aK 0) [aK 2, aK 1, (0, 99999)] = true := by decide +kernel
theorem of_22 : atryO (aK 0) [aK 2, aK 2, (0, 99999)] = true := by decide +kernel
theorem of_23 : atryO (aK 0) [aK 2, aK 3, (0, 99999)] = true := by decide +kernel
theorem of_24 : atryO (aK 0) [aK 2, aK 4, (0, 99999)] = true := by decide +kernel
theorem of_31 : atryO (aK 0) [aK 3, aK 1, (0, 99999)] = true := by decide +kernel
theorem of_32 : atryO (aK 0) [aK 3, aK 2, (0, 99999)] = true := by decide +kernel
theorem of_33 : atryO (aK 0) [aK 3, aK 3, (0, 99999)] = true := by decide +kernel
theorem of_34 : atryO (aK 0) [aK 3, aK 4, (0, 99999)] = true := by decide +kernel
theorem of_41 : atryO (aK 0) [aK 4, aK 1, (0, 99999)] = true := by decide +kernel
theorem of_42 : atryO (aK 0) [aK 4, aK 2, (0, 99999)] = true := by decide +kernel
theorem of_43 : atryO (aK 0) [aK 4, aK 3, (0, 99999)] = true := by decide +kernel
theorem of_44 : atryO (aK 0) [aK 4, aK 4, (0, 99999)] = true := by decide +kernel
def a_foams : List (List aI) := [[aK 1, aK 1, (0, 99999)], [aK 1, aK 2, (0, 99999)], [aK 1, aK 3, (0, 99999)], [aK 1, aK 4, (0, 99999)], [aK 2, aK 1, (0, 99999)], [aK 2, aK 2, (0, 99999)], [aK 2, aK 3, (0, 99999)], [aK 2, aK 4, (0, 99999)], [aK 3, aK 1, (0, 99999)], [aK 3, aK 2, (0, 99999)], [aK 3, aK 3, (0, 99999)], [aK 3, aK 4, (0, 99999)], [aK 4, aK 1, (0, 99999)], [aK 4, aK 2, (0, 99999)], [aK 4, aK 3, (0, 99999)], [aK 4, aK 4, (0, 99999)]]
noncomputable def atryF (pre : List aI) : Bool := decide (pre ∈ a_foams) || atryO (aK 0) pre
theorem atryF_ok {pre : List aI} (h : atryF pre = true) : atryO (aK 0) pre = true := by
  unfold atryF at h
  rw [Bool.or_eq_true, decide_eq_true_eq] at h
  rcases h with h | h
  · unfold a_foams at h
    simp only [List.mem_cons, List.not_mem_nil, or_false] at h
    rcases h with h | h | h | h | h | h | h | h | h | h | h | h | h | h | h | h
    · rw [h]; exact of_11
    · rw [h]; exact of_12
    · rw [h]; exact of_13
    · rw [h]; exact of_14
    · rw [h]; exact of_21
    · rw [h]; exact of_22
    · rw [h]; exact of_23
    · rw [h]; exact of_24
    · rw [h]; exact of_31
    · rw [h]; exact of_32
    · rw [h]; exact of_33
    · rw [h]; exact of_34
    · rw [h]; exact of_41
    · rw [h]; exact of_42
    · rw [h]; exact of_43
    · rw [h]; exact of_44
  · exact h
theorem op_0 : ack atryF [[1, 2, 3, 4, 5], [1, 2, 3, 4, 5], [0, 100000]] [] = true := by decide +kernel
theorem oq_0 (x0 : Int32) (b : List Int32) (hb : b.length = 5) : jgo1 (Int32.ofInt 0) (x0 :: b) := ack_ok (g := atryF) (P := fun b => jgo1 (Int32.ofInt 0) (x0 :: b)) (n := 5) (fun pre a b h1 h2 h3 => atryO_ok (z := aK 0) ⟨by decide, by decide⟩ pre a b (atryF_ok h1) h2 h3) _ [] [] b op_0 trivial (by rw [List.length_nil]; omega) (by decide)

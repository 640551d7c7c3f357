theorem ops_all (z x0 : Int32) (b : List Int32) (hb : b.length = 5) : jgo1 z (x0 :: b) := by
  by_cases h1 : z.toInt < 0
  · exact oq_lo h1 x0 b hb
  · by_cases h2 : 40 < z.toInt
    · exact oq_hi h2 x0 b hb
    · obtain ⟨m, hm⟩ : ∃ m, m = z.toInt := ⟨_, rfl⟩
      have hz : z = Int32.ofInt m := by rw [hm, Int32.ofInt_toInt]
      rw [hz]
      rcases (by omega : m = 0 ∨ m = 1 ∨ m = 2 ∨ m = 3 ∨ m = 4 ∨ m = 5 ∨ m = 6 ∨ m = 7 ∨ m = 8 ∨ m = 9 ∨ m = 10 ∨ m = 11 ∨ m = 12 ∨ m = 13 ∨ m = 14 ∨ m = 15 ∨ m = 16 ∨ m = 17 ∨ m = 18 ∨ m = 19 ∨ m = 20 ∨ m = 21 ∨ m = 22 ∨ m = 23 ∨ m = 24 ∨ m = 25 ∨ m = 26 ∨ m = 27 ∨ m = 28 ∨ m = 29 ∨ m = 30 ∨ m = 31 ∨ m = 32 ∨ m = 33 ∨ m = 34 ∨ m = 35 ∨ m = 36 ∨ m = 37 ∨ m = 38 ∨ m = 39 ∨ m = 40) with h | h | h | h | h | h | h | h | h | h | h | h | h | h | h | h | h | h | h | h | h | h | h | h | h | h | h | h | h | h | h | h | h | h | h | h | h | h | h | h | h
      · rw [h]; exact oq_0 x0 b hb
      · rw [h]; exact oq_1 x0 b hb
      · rw [h]; exact oq_2 x0 b hb
      · rw [h]; exact oq_3 x0 b hb
      · rw [h]; exact oq_4 x0 b hb
      · rw [h]; exact oq_5 x0 b hb
      · rw [h]; exact oq_6 x0 b hb
      · rw [h]; exact oq_7 x0 b hb
      · rw [h]; exact oq_8 x0 b hb
      · rw [h]; exact oq_9 x0 b hb
      · rw [h]; exact oq_10 x0 b hb
      · rw [h]; exact oq_11 x0 b hb
      · rw [h]; exact oq_12 x0 b hb
      · rw [h]; exact oq_13 x0 b hb
      · rw [h]; exact oq_14 x0 b hb
      · rw [h]; exact oq_15 x0 b hb
      · rw [h]; exact oq_16 x0 b hb
      · rw [h]; exact oq_17 x0 b hb
      · rw [h]; exact oq_18 x0 b hb
      · rw [h]; exact oq_19 x0 b hb
      · rw [h]; exact oq_20 x0 b hb
      · rw [h]; exact oq_21 x0 b hb
      · rw [h]; exact oq_22 x0 b hb
      · rw [h]; exact oq_23 x0 b hb
      · rw [h]; exact oq_24 x0 b hb
      · rw [h]; exact oq_25 x0 b hb
      · rw [h]; exact oq_26 x0 b hb
      · rw [h]; exact oq_27 x0 b hb
      · rw [h]; exact oq_28 x0 b hb
      · rw [h]; exact oq_29 x0 b hb
      · rw [h]; exact oq_30 x0 b hb
      · rw [h]; exact oq_31 x0 b hb
      · rw [h]; exact oq_32 x0 b hb
      · rw [h]; exact oq_33 x0 b hb
      · rw [h]; exact oq_34 x0 b hb
      · rw [h]; exact oq_35 x0 b hb
      · rw [h]; exact oq_36 x0 b hb
      · rw [h]; exact oq_37 x0 b hb
      · rw [h]; exact oq_38 x0 b hb
      · rw [h]; exact oq_39 x0 b hb
      · rw [h]; exact oq_40 x0 b hb
theorem whole_start {p : Program} {e : Env} {s : State} {m : MethodId} {below : List Frame} {meth : Method} {c : Code} (l : Launch) (hflags : l.flags = flags0) {b L : Nat} {xs : Nat → Int32} (hL : L ≤ 6) (C0 : lw_At p s m meth c b L xs) : W p l e room_1 s m #[Value.ref b] below meth c s.heap [] 0 0 (lw_Z below #[Value.ref b] s) (entryFrame m ([Value.ref b] : List Value).toArray 4) := by
  have hx : ((List.range L).map xs).length = L := by rw [List.length_map, List.length_range]
  have key : ∃ r, jlaw jF0 ((List.range L).map xs) = some r ∧ jwell r := by
    rcases (by omega : L = 0 ∨ L = 1 ∨ L = 2 ∨ L = 3 ∨ L = 4 ∨ L = 5 ∨ L = 6) with h | h | h | h | h | h | h
    · exact jl_0 (hx.trans h)
    · exact jl_1 (hx.trans h)
    · exact jl_2 (hx.trans h)
    · exact jl_3 (hx.trans h)
    · exact jl_4 (hx.trans h)
    · exact jl_5 (hx.trans h)
    · exact jl6 (hx.trans h) ops_all
  obtain ⟨r, r1, r2, r3, r4⟩ := key
  exact whole_of l C0 r1 r2 r3 r4

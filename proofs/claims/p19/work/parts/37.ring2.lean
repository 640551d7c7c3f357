/-! RINGS: what is got out of them, what shuts, what opens -/
theorem rem_A {x : Int32} {n : Nat} (hn : 0 < n) (hn2 : n < 1000) (h0 : 0 ≤ x.toInt) (h1 : x.toInt < n) : x - x / o32 n * o32 n = x := by
  have e : x / o32 n = 0 := by
    apply Int32.toInt_inj.mp
    rw [Int32.toInt_div, o_ti (by omega), Int.tdiv_eq_ediv_of_nonneg h0, Int.ediv_eq_zero_of_lt h0 h1]
    rfl
  rw [e]
  have e2 : (0 : Int32) * o32 n = 0 := by
    rw [show (0 : Int32) = o32 0 from rfl, o_mul, Nat.zero_mul]
  rw [e2]
  apply Int32.toInt_inj.mp
  rw [Int32.toInt_sub]
  have e3 : (0 : Int32).toInt = 0 := rfl
  rw [e3, Int.sub_zero]
  exact Int.bmod_eq_of_le (by omega) (by omega)
theorem rem_B {x : Int32} {n : Nat} (hn : 0 < n) (hn2 : n < 1000) (h0 : (n : Int) ≤ x.toInt) (h1 : x.toInt < 2 * n) : x - x / o32 n * o32 n = x - o32 n := by
  have e : x / o32 n = 1 := by
    apply Int32.toInt_inj.mp
    rw [Int32.toInt_div, o_ti (by omega), Int.tdiv_eq_ediv_of_nonneg (by omega)]
    have e1 : x.toInt / (n : Int) = 1 := by
      have a : x.toInt = (x.toInt - n) + n * 1 := by omega
      rw [a, Int.add_mul_ediv_left _ _ (by omega), Int.ediv_eq_zero_of_lt (by omega) (by omega)]
      rfl
    rw [e1]
    rfl
  rw [e, show (1 : Int32) = o32 1 from rfl, o_mul, Nat.one_mul]
theorem rem_C {x : Int32} {n : Nat} (hn : 0 < n) (hn2 : n < 1000) (h0 : x.toInt < 0) (h1 : -(n : Int) < x.toInt) : x - x / o32 n * o32 n = x := by
  have e : x / o32 n = 0 := by
    apply Int32.toInt_inj.mp
    rw [Int32.toInt_div, o_ti (by omega)]
    have a : x.toInt = -(-x.toInt) := by omega
    rw [a, Int.neg_tdiv, Int.tdiv_eq_ediv_of_nonneg (by omega), Int.ediv_eq_zero_of_lt (by omega) (by omega)]
    rfl
  rw [e]
  have e2 : (0 : Int32) * o32 n = 0 := by
    rw [show (0 : Int32) = o32 0 from rfl, o_mul, Nat.zero_mul]
  rw [e2]
  apply Int32.toInt_inj.mp
  rw [Int32.toInt_sub]
  have e3 : (0 : Int32).toInt = 0 := rfl
  rw [e3, Int.sub_zero]
  exact Int.bmod_eq_of_le (by omega) (by omega)
theorem rem_D {x : Int32} {n : Nat} (hn : 0 < n) (hn2 : n < 1000) (h0 : x.toInt = -(n : Int)) : x - x / o32 n * o32 n = 0 := by
  have e : x / o32 n = -1 := by
    apply Int32.toInt_inj.mp
    rw [Int32.toInt_div, o_ti (by omega), h0, Int.neg_tdiv, Int.tdiv_self (by omega)]
    rfl
  rw [e]
  apply Int32.toInt_inj.mp
  rw [Int32.toInt_sub, Int32.toInt_mul, o_ti (by omega), h0]
  have e3 : (-1 : Int32).toInt = -1 := rfl
  rw [e3, Int.bmod_eq_of_le (n := -1 * (n : Int)) (by omega) (by omega), show -(n : Int) - -1 * (n : Int) = 0 by omega]
  rfl
/-- what stands at a place, round and round -/
theorem at_s {m : Mem} {b z : Nat} {x : Int32} {l : List Nat} (hb : b < 16) (h : rgAt m b l) (hz : z < l.length) (hx : x.toInt = (z : Int) ∨ x.toInt = (z : Int) + l.length ∨ x.toInt = (z : Int) - l.length) : fX9_at (o32 b) x m = some (o32 l[z]) := by
  obtain ⟨h1, h2, h3, h4⟩ := h
  unfold fX9_at
  rw [sd_o hb, h2]
  have n0 : ¬ o32 l.length = 0 := by
    rw [show (0 : Int32) = o32 0 from rfl, o_eq (by omega) (by omega)]
    omega
  show (if ¬ o32 l.length = 0 then _ else _) = _
  rw [if_pos n0, if_pos n0]
  have key : ((x - x / o32 l.length * o32 l.length) + o32 l.length) - ((x - x / o32 l.length * o32 l.length) + o32 l.length) / o32 l.length * o32 l.length = o32 z := by
    have zz : ∀ y : Int32, y.toInt = (z : Int) → y = o32 z := fun y hy => by
      apply Int32.toInt_inj.mp
      rw [hy, o_ti (by omega)]
    have plus : ∀ y : Int32, -100 < y.toInt → y.toInt < 100 → (y + o32 l.length).toInt = y.toInt + l.length := fun y a b => by
      rw [Int32.toInt_add, o_ti (by omega)]
      exact Int.bmod_eq_of_le (by omega) (by omega)
    have minus : ∀ y : Int32, -100 < y.toInt → y.toInt < 100 → (y - o32 l.length).toInt = y.toInt - l.length := fun y a b => by
      rw [Int32.toInt_sub, o_ti (by omega)]
      exact Int.bmod_eq_of_le (by omega) (by omega)
    rcases hx with hx | hx | hx
    · rw [rem_A (x := x) (n := l.length) (by omega) (by omega) (by omega) (by omega)]
      have e := plus x (by omega) (by omega)
      rw [rem_B (x := x + o32 l.length) (n := l.length) (by omega) (by omega) (by omega) (by omega)]
      apply zz
      rw [minus _ (by omega) (by omega)]
      omega
    · rw [rem_B (x := x) (n := l.length) (by omega) (by omega) (by omega) (by omega)]
      have e0 := minus x (by omega) (by omega)
      have e := plus (x - o32 l.length) (by omega) (by omega)
      rw [rem_B (x := x - o32 l.length + o32 l.length) (n := l.length) (by omega) (by omega) (by omega) (by omega)]
      apply zz
      rw [minus (x - o32 l.length + o32 l.length) (by omega) (by omega)]
      omega
    · by_cases hz0 : z = 0
      · rw [rem_D (x := x) (n := l.length) (by omega) (by omega) (by omega)]
        have e0 : (0 : Int32).toInt = 0 := rfl
        have e := plus 0 (by omega) (by omega)
        rw [rem_B (x := 0 + o32 l.length) (n := l.length) (by omega) (by omega) (by omega) (by omega)]
        apply zz
        rw [minus (0 + o32 l.length) (by omega) (by omega)]
        omega
      · rw [rem_C (x := x) (n := l.length) (by omega) (by omega) (by omega) (by omega)]
        have e := plus x (by omega) (by omega)
        rw [rem_A (x := x + o32 l.length) (n := l.length) (by omega) (by omega) (by omega) (by omega)]
        apply zz
        omega
  show ((fX9_of (o32 b) (6 + _) m).bind fun q4 => some q4) = _
  rw [key, rg_o hb (by omega), h4 z hz]
  rfl
/-- nothing but the ring of b is another -/
noncomputable def offR (m m' : Mem) (b : Nat) : Prop := ∀ c j, ¬ (c = 138 ∧ 12 + 50 * b + 5 ≤ j ∧ j < 12 + 50 * b + 50) → m' c j = m c j
theorem rgAt_off {m m' : Mem} {b b' : Nat} {l : List Nat} (h : rgAt m b' l) (ho : offR m m' b) (hn : b' ≠ b) : rgAt m' b' l := by
  obtain ⟨h1, h2, h3, h4⟩ := h
  refine ⟨h1, ?_, h3, fun i hi => ?_⟩
  · rw [ho 138 _ (by omega)]; exact h2
  · rw [ho 138 _ (by omega)]; exact h4 i hi
/-- the memory while ring b shuts over place i -/
noncomputable def shM (m : Mem) (b i n j : Nat) : Mem := fun c a => if c = 138 then (if a = 12 + 50 * b + 5 then o32 (n - 1) else if 12 + 50 * b + (6 + i) ≤ a ∧ a < 12 + 50 * b + (6 + i) + j then m 138 (a + 1) else m c a) else m c a
theorem mput_get (m : Mem) (c j : Nat) (x : Int32) (c' j' : Nat) : mput m c j x c' j' = if c' = c ∧ j' = j then x else m c' j' := by
  by_cases h1 : c' = c
  · subst h1
    by_cases h2 : j' = j
    · subst h2
      rw [mput_at, if_pos ⟨rfl, rfl⟩]
    · rw [mput_j _ _ _ _ h2, if_neg (fun z => h2 z.2)]
  · rw [mput_c _ _ _ h1, if_neg (fun z => h1 z.1)]
theorem shuts_s {m : Mem} {b i : Nat} {l : List Nat} (hb : b < 16) (h : rgAt m b l) (hi : i < l.length) : ∃ m', fX9_shuts (o32 b) (o32 i) m = some m' ∧ rgAt m' b (l.eraseIdx i) ∧ offR m m' b := by
  obtain ⟨h1, h2, h3, h4⟩ := h
  refine ⟨shM m b i l.length (l.length - 1 - i), ?_, ?_, ?_⟩
  · unfold fX9_shuts
    rw [sd_o hb, h2]
    show (fX9_tells (o32 b) 5 (o32 l.length - 1) m).bind _ = _
    rw [show o32 l.length - 1 = o32 (l.length - 1) from o_sub (b := 1) (by omega) (by omega), show fX9_tells (o32 b) 5 (o32 (l.length - 1)) m = _ from tl_o (f := 5) hb (by omega)]
    have e0 : mput m 138 (12 + 50 * b + 5) (o32 (l.length - 1)) = shM m b i l.length 0 := by
      funext c a
      rw [mput_get]
      unfold shM
      split <;> split <;> (try split) <;> (try split) <;> first | rfl | omega
    show lp (lX9_shuts_15 (o32 b)) fu (o32 i, mput m 138 (12 + 50 * b + 5) (o32 (l.length - 1))) = _
    rw [e0]
    refine lp_fwd (body := lX9_shuts_15 (o32 b)) (l.length - 1 - i) (fun j => (o32 (i + j), shM m b i l.length j)) fu (fun j hj => ?_) ?_ (lt_fu (by omega))
    · unfold lX9_shuts_15
      rw [sd_o hb]
      have e1 : shM m b i l.length j 138 (12 + 50 * b + 5) = o32 (l.length - 1) := by
        unfold shM
        rw [if_pos rfl, if_pos rfl]
      dsimp only
      rw [e1]
      show (if o32 (l.length - 1) ≤ o32 (i + j) then _ else _) = _
      rw [if_neg (by rw [o_le (by omega) (by omega)]; omega)]
      have e2 : ((6 : Int32) + o32 (i + j)) + 1 = 6 + o32 (i + j + 1) := by
        show (o32 6 + o32 (i + j)) + o32 1 = o32 6 + o32 (i + j + 1)
        rw [o_add, o_add, o_add]
        congr 1
      rw [e2, rg_o hb (by omega)]
      show (fX9_tells (o32 b) (6 + o32 (i + j)) _ _).bind _ = _
      rw [tr_o hb (by omega)]
      show some (Sum.inl (o32 (i + j) + 1, _)) = some (Sum.inl (o32 (i + (j + 1)), _))
      rw [o_s, show i + (j + 1) = i + j + 1 from rfl]
      congr 3
      funext c a
      rw [mput_get]
      unfold shM
      by_cases hc : c = 138
      · subst hc
        simp only [↓reduceIte, true_and]
        (repeat' split) <;> first | rfl | omega | (congr 1; omega)
      · simp only [hc, ↓reduceIte, false_and]
    · unfold lX9_shuts_15
      rw [sd_o hb]
      have e1 : shM m b i l.length (l.length - 1 - i) 138 (12 + 50 * b + 5) = o32 (l.length - 1) := by
        unfold shM
        rw [if_pos rfl, if_pos rfl]
      dsimp only
      rw [e1]
      show (if o32 (l.length - 1) ≤ o32 (i + (l.length - 1 - i)) then _ else _) = _
      rw [if_pos (by rw [o_le (by omega) (by omega)]; omega)]
  · have hl : (l.eraseIdx i).length = l.length - 1 := by rw [List.length_eraseIdx, if_pos hi]
    refine ⟨by omega, ?_, fun x hx => h3 x (List.mem_of_mem_eraseIdx hx), fun k hk => ?_⟩
    · unfold shM
      rw [if_pos rfl, if_pos rfl, hl]
    · unfold shM
      rw [if_pos rfl, if_neg (by omega), List.getElem_eraseIdx]
      by_cases hk2 : k < i
      · rw [if_neg (by omega), dif_pos hk2]
        exact h4 k (by omega)
      · rw [if_pos (by omega), dif_neg hk2]
        have := h4 (k + 1) (by omega)
        rw [← this]
        congr 1
  · intro c j hj
    unfold shM
    by_cases hc : c = 138
    · rw [if_pos hc, if_neg (by omega), if_neg (by omega)]
    · rw [if_neg hc]
/-- the memory while ring b opens at place i -/
noncomputable def opM (m : Mem) (b n j : Nat) : Mem := fun c a => if c = 138 then (if 12 + 50 * b + (6 + n) - j < a ∧ a ≤ 12 + 50 * b + (6 + n) then m 138 (a - 1) else m c a) else m c a
theorem opens_s {m : Mem} {b i x : Nat} {l : List Nat} (hb : b < 16) (h : rgAt m b l) (hi : i ≤ l.length) (hx : x ≤ 16) (hl : l.length < 44) : ∃ m', fX9_opens (o32 b) (o32 i) (o32 x) m = some m' ∧ rgAt m' b (l.insertIdx i x) ∧ offR m m' b := by
  obtain ⟨h1, h2, h3, h4⟩ := h
  refine ⟨mput (mput (opM m b l.length (l.length - i)) 138 (12 + 50 * b + (6 + i)) (o32 x)) 138 (12 + 50 * b + 5) (o32 (l.length + 1)), ?_, ?_, ?_⟩
  · unfold fX9_opens
    rw [sd_o hb, h2]
    show lp (lX9_opens_7 (o32 b) (o32 i) (o32 x)) fu (o32 l.length, m) = _
    have e0 : m = opM m b l.length 0 := by
      funext c a
      unfold opM
      split <;> (try split) <;> first | rfl | omega
    have e9 : (o32 l.length, m) = (fun j => (o32 (l.length - j), opM m b l.length j)) 0 := by
      show _ = (o32 (l.length - 0), opM m b l.length 0)
      rw [← e0]
      rfl
    rw [e9]
    refine lp_fwd (body := lX9_opens_7 (o32 b) (o32 i) (o32 x)) (l.length - i) (fun j => (o32 (l.length - j), opM m b l.length j)) fu (fun j hj => ?_) ?_ (lt_fu (by omega))
    · unfold lX9_opens_7
      dsimp only
      rw [if_neg (by rw [o_le (by omega) (by omega)]; omega)]
      have e2 : ((6 : Int32) + o32 (l.length - j)) - 1 = 6 + o32 (l.length - j - 1) := by
        show (o32 6 + o32 (l.length - j)) - o32 1 = o32 6 + o32 (l.length - j - 1)
        rw [o_add, o_add, o_sub (by omega) (by omega)]
        congr 1
        omega
      rw [e2, rg_o hb (by omega)]
      show (fX9_tells (o32 b) (6 + o32 (l.length - j)) _ _).bind _ = _
      rw [tr_o hb (by omega)]
      show some (Sum.inl (o32 (l.length - j) + -1, _)) = some (Sum.inl (o32 (l.length - (j + 1)), _))
      have e3 : o32 (l.length - j) + -1 = o32 (l.length - (j + 1)) := by
        have : (-1 : Int32) = -(1 : Int32) := rfl
        rw [this, ← Int32.sub_eq_add_neg, show (1 : Int32) = o32 1 from rfl, o_sub (by omega) (by omega)]
        congr 1
      rw [e3]
      congr 3
      funext c a
      rw [mput_get]
      unfold opM
      by_cases hc : c = 138
      · subst hc
        simp only [↓reduceIte, true_and]
        (repeat' split) <;> first | rfl | omega | (congr 1; omega)
      · simp only [hc, ↓reduceIte, false_and]
    · unfold lX9_opens_7
      dsimp only
      rw [if_pos (by rw [o_le (by omega) (by omega)]; omega), tr_o hb (by omega)]
      show (fX9_sidesOf (o32 b) _).bind _ = _
      rw [sd_o hb]
      have e1 : mput (opM m b l.length (l.length - i)) 138 (12 + 50 * b + (6 + i)) (o32 x) 138 (12 + 50 * b + 5) = o32 l.length := by
        rw [mput_get, if_neg (by omega)]
        unfold opM
        rw [if_pos rfl, if_neg (by omega)]
        exact h2
      rw [e1]
      show (fX9_tells (o32 b) 5 (o32 l.length + 1) _).bind _ = _
      rw [o_s, show fX9_tells (o32 b) 5 (o32 (l.length + 1)) _ = _ from tl_o (f := 5) hb (by omega)]
      rfl
  · have hl : (l.insertIdx i x).length = l.length + 1 := List.length_insertIdx_of_le_length hi x
    refine ⟨by omega, ?_, fun y hy => ?_, fun k hk => ?_⟩
    · rw [mput_get, if_pos ⟨rfl, rfl⟩, hl]
    · rcases (List.mem_insertIdx hi).mp hy with e | e
      · omega
      · exact h3 y e
    · rw [mput_get, if_neg (by omega), mput_get, List.getElem_insertIdx]
      by_cases hk2 : k < i
      · rw [if_neg (by omega), dif_pos hk2]
        unfold opM
        rw [if_pos rfl, if_neg (by omega)]
        exact h4 k (by omega)
      · rw [dif_neg hk2]
        by_cases hk3 : k = i
        · subst hk3
          rw [if_pos ⟨rfl, rfl⟩, dif_pos rfl]
        · rw [if_neg (by omega), dif_neg hk3]
          unfold opM
          rw [if_pos rfl, if_pos (by omega)]
          have := h4 (k - 1) (by omega)
          rw [← this]
          congr 1
          omega
  · intro c j hj
    rw [mput_get, if_neg (by omega), mput_get, if_neg (by omega)]
    unfold opM
    by_cases hc : c = 138
    · rw [if_pos hc, if_neg (by omega)]
    · rw [if_neg hc]

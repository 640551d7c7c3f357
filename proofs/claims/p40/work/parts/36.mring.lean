section
/-! NUMBERS, LOOPS, THE MODEL'S RINGS -/
abbrev o32 (n : Nat) : Int32 := Int32.ofNat n
theorem o_add (a b : Nat) : o32 a + o32 b = o32 (a + b) := (Int32.ofNat_add a b).symm
theorem o_mul (a b : Nat) : o32 a * o32 b = o32 (a * b) := (Int32.ofNat_mul a b).symm
theorem o_ti {n : Nat} (h : n < 2147483648) : (o32 n).toInt = n := Int32.toInt_ofNat_of_lt h
theorem o_tn {n : Nat} (h : n < 2147483648) : (o32 n).toNatClampNeg = n := by
  show (o32 n).toInt.toNat = n
  rw [o_ti h]
  rfl
theorem o_lt {a b : Nat} (ha : a < 2147483648) (hb : b < 2147483648) : o32 a < o32 b ↔ a < b := by
  rw [Int32.lt_iff_toInt_lt, o_ti ha, o_ti hb]
  omega
theorem o_le {a b : Nat} (ha : a < 2147483648) (hb : b < 2147483648) : o32 a ≤ o32 b ↔ a ≤ b := by
  rw [Int32.le_iff_toInt_le, o_ti ha, o_ti hb]
  omega
theorem o_eq {a b : Nat} (ha : a < 2147483648) (hb : b < 2147483648) : o32 a = o32 b ↔ a = b := by
  constructor
  · intro h
    have := congrArg Int32.toInt h
    rw [o_ti ha, o_ti hb] at this
    omega
  · intro h; rw [h]
theorem o_sub {a b : Nat} (h : b ≤ a) (ha : a < 2147483648) : o32 a - o32 b = o32 (a - b) := by
  apply Int32.toInt_inj.mp
  rw [Int32.toInt_sub, o_ti ha, o_ti (by omega), o_ti (by omega)]
  have e : ((a : Int) - (b : Int)) = ((a - b : Nat) : Int) := by omega
  rw [e]
  exact Int.bmod_eq_of_le (by omega) (by omega)
theorem o_inb {j n : Nat} (hj : j < n) (hn : j < 2147483648) : inb (o32 j) n := by
  refine ⟨?_, by rw [o_tn hn]; exact hj⟩
  rw [Int32.le_iff_toInt_le, o_ti hn]
  show (0 : Int) ≤ j
  omega
theorem o_neg1 {n : Nat} (h : n < 2147483648) : ¬ o32 n = -1 := by
  intro z
  have := congrArg Int32.toInt z
  rw [o_ti h] at this
  have e : (-1 : Int32).toInt = -1 := by decide
  omega
theorem o_ge0 {n : Nat} (h : n < 2147483648) : (0 : Int32) ≤ o32 n := by
  rw [Int32.le_iff_toInt_le, o_ti h]
  show (0 : Int) ≤ n
  omega
theorem o_s (i : Nat) : o32 i + (1 : Int32) = o32 (i + 1) := o_add i 1
theorem lp_fwd {S E : Type} {body : S → Option (S ⊕ E)} {e : E} : ∀ (k : Nat) (st : Nat → S) (n : Nat), (∀ i, i < k → body (st i) = some (.inl (st (i + 1)))) → body (st k) = some (.inr e) → k < n → lp body n (st 0) = some e
  | 0, st, n, _, he, hk => by
    obtain ⟨n, rfl⟩ : ∃ z, n = z + 1 := ⟨n - 1, by omega⟩
    unfold lp
    rw [he]
  | k + 1, st, n, hs, he, hk => by
    obtain ⟨n, rfl⟩ : ∃ z, n = z + 1 := ⟨n - 1, by omega⟩
    unfold lp
    rw [hs 0 (by omega)]
    exact lp_fwd k (fun i => st (i + 1)) n (fun i hi => hs (i + 1) (by omega)) he (by omega)
/-- a loop with an invariant and a measure -/
theorem lp_inv {S E : Type} {body : S → Option (S ⊕ E)} (I : S → Prop) (μ : S → Nat) (Q : E → Prop) (hs : ∀ s, I s → (∃ s', body s = some (.inl s') ∧ I s' ∧ μ s' < μ s) ∨ (∃ e, body s = some (.inr e) ∧ Q e)) : ∀ (n : Nat) (s : S), I s → μ s < n → ∃ e, lp body n s = some e ∧ Q e
  | 0, _, _, h => absurd h (by omega)
  | n + 1, s, hi, hm => by
    unfold lp
    rcases hs s hi with ⟨s', e1, e2, e3⟩ | ⟨e, e1, e2⟩
    · rw [e1]
      exact lp_inv I μ Q hs n s' e2 (by omega)
    · rw [e1]
      exact ⟨e, rfl, e2⟩
theorem lt_fu {n : Nat} (h : n < 4294967296) : n < fu := Nat.lt_of_lt_of_le h fu_ge
theorem ad_o (b f : Nat) : ((12 : Int32) + ((50 : Int32) * o32 b)) + o32 f = o32 (12 + 50 * b + f) := by
  show (o32 12 + o32 50 * o32 b) + o32 f = _
  rw [o_mul, o_add, o_add]
theorem of_o {b f : Nat} {m : Mem} (hb : b < 16) (hf : f < 50) : fX9_of (o32 b) (o32 f) m = some (m 138 (12 + 50 * b + f)) := by
  unfold fX9_of
  rw [ad_o, if_pos (o_inb (by omega) (by omega)), o_tn (by omega)]
theorem tl_o {b f : Nat} {v : Int32} {m : Mem} (hb : b < 16) (hf : f < 50) : fX9_tells (o32 b) (o32 f) v m = some (mput m 138 (12 + 50 * b + f) v) := by
  unfold fX9_tells
  rw [ad_o, if_pos (o_inb (by omega) (by omega)), o_tn (by omega)]
theorem sd_o {b : Nat} {m : Mem} (hb : b < 16) : fX9_sidesOf (o32 b) m = some (m 138 (12 + 50 * b + 5)) := by
  unfold fX9_sidesOf
  rw [show fX9_of (o32 b) 5 m = _ from of_o (f := 5) hb (by omega)]
  rfl
theorem rg_o {b i : Nat} {m : Mem} (hb : b < 16) (hi : i < 44) : fX9_of (o32 b) ((6 : Int32) + o32 i) m = some (m 138 (12 + 50 * b + (6 + i))) := by
  rw [show (6 : Int32) + o32 i = o32 (6 + i) from o_add 6 i]
  exact of_o hb (by omega)
theorem tr_o {b i : Nat} {v : Int32} {m : Mem} (hb : b < 16) (hi : i < 44) : fX9_tells (o32 b) ((6 : Int32) + o32 i) v m = some (mput m 138 (12 + 50 * b + (6 + i)) v) := by
  rw [show (6 : Int32) + o32 i = o32 (6 + i) from o_add 6 i]
  exact tl_o hb (by omega)
/-- the ring of b in the model's memory -/
noncomputable def rgAt (m : Mem) (b : Nat) (l : List Nat) : Prop := l.length ≤ 44 ∧ m 138 (12 + 50 * b + 5) = o32 l.length ∧ (∀ x ∈ l, x ≤ 16) ∧ ∀ i, (h : i < l.length) → m 138 (12 + 50 * b + (6 + i)) = o32 l[i]
noncomputable def plc (l : List Nat) (x : Nat) : Int32 := if x ∈ l then o32 (l.idxOf x) else -1
theorem plc_snoc {l : List Nat} {x y : Nat} : plc (l ++ [y]) x = if x ∈ l then plc l x else if y = x then o32 l.length else -1 := by
  unfold plc
  by_cases h : x ∈ l
  · rw [if_pos (List.mem_append_left _ h), if_pos h, if_pos h, List.idxOf_append, if_pos h]
  · rw [if_neg h]
    by_cases e : y = x
    · subst e
      rw [if_pos (List.mem_append_right _ List.mem_cons_self), if_pos rfl, List.idxOf_append, if_neg h]
      simp
    · rw [if_neg e, if_neg]
      intro z
      rcases List.mem_append.mp z with z | z
      · exact h z
      · exact e (List.mem_singleton.mp z).symm
theorem tk1 {l : List Nat} {i : Nat} (h : i < l.length) : l.take (i + 1) = l.take i ++ [l[i]] := List.take_succ_eq_append_getElem h
theorem placeIn_s {m : Mem} {b x : Nat} {l : List Nat} (hb : b < 16) (hx : x ≤ 16) (h : rgAt m b l) : fX9_placeIn (o32 b) (o32 x) m = some (plc l x) := by
  obtain ⟨h1, h2, h3, h4⟩ := h
  unfold fX9_placeIn
  refine lp_fwd (body := lX9_placeIn_5 (o32 b) (o32 x) m) l.length (fun i => (plc (l.take i) x, o32 i)) fu (fun i hi => ?_) ?_ (lt_fu (by omega))
  · unfold lX9_placeIn_5
    rw [sd_o hb, h2]
    show (if o32 l.length ≤ o32 i then _ else _) = _
    rw [if_neg (by rw [o_le (by omega) (by omega)]; omega), tk1 hi, plc_snoc]
    have hl : (l.take i).length = i := by rw [List.length_take]; omega
    by_cases hm : x ∈ l.take i
    · have e : (0 : Int32) ≤ plc (l.take i) x := by
        unfold plc
        rw [if_pos hm]
        have := List.idxOf_lt_length_of_mem hm
        exact o_ge0 (by omega)
      rw [if_pos e, if_pos hm, ← o_s]
    · have e : ¬ (0 : Int32) ≤ plc (l.take i) x := by
        unfold plc
        rw [if_neg hm]
        decide
      rw [if_neg e, if_neg hm, rg_o hb (by omega), h4 i hi]
      have hli := h3 _ (List.getElem_mem hi)
      show (if o32 l[i] = o32 x then _ else _) = _
      by_cases e2 : l[i] = x
      · rw [if_pos (by rw [e2]), if_pos e2, hl, ← o_s]
      · rw [if_neg (by rw [o_eq (by omega) (by omega)]; exact e2), if_neg e2, ← o_s]
        unfold plc
        rw [if_neg hm]
  · unfold lX9_placeIn_5
    rw [sd_o hb, h2]
    show (if o32 l.length ≤ o32 l.length then _ else _) = _
    rw [if_pos (by rw [o_le (by omega) (by omega)]; omega), List.take_length]
theorem isWall_s {m : Mem} {b x : Nat} {l : List Nat} (hb : b < 16) (hx : x ≤ 16) (h : rgAt m b l) : fX9_isWall (o32 b) (o32 x) m = some (if x ∈ l then 1 else 0) := by
  unfold fX9_isWall
  rw [placeIn_s hb hx h]
  show (if plc l x < 0 then some 0 else some 1) = _
  unfold plc
  by_cases hm : x ∈ l
  · have := List.idxOf_lt_length_of_mem hm
    have hl := h.1
    rw [if_pos hm, if_pos hm, if_neg]
    rw [show (0 : Int32) = o32 0 from rfl, o_lt (by omega) (by omega)]
    omega
  · rw [if_neg hm, if_neg hm, if_pos (by decide)]
end
section
/-! RINGS: what is got out of them, what shuts, what opens -/
theorem rem_A {x : Int32} {n : Nat} (hn : 0 < n) (hn2 : n < 1000) (h0 : 0 ≤ x.toInt) (h1 : x.toInt < n) : x - x / o32 n * o32 n = x := by
  have e : x / o32 n = 0 := by
    apply Int32.toInt_inj.mp
    rw [Int32.toInt_div, o_ti (by omega), Int.tdiv_eq_ediv_of_nonneg h0, Int.ediv_eq_zero_of_lt h0 h1]
    rfl
  rw [e]
  have e2 : (0 : Int32) * o32 n = 0 := by
    rw [show (0 : Int32) = o32 0 from rfl, o_mul, Nat.zero_mul]
  rw [e2]
  apply Int32.toInt_inj.mp
  rw [Int32.toInt_sub]
  have e3 : (0 : Int32).toInt = 0 := rfl
  rw [e3, Int.sub_zero]
  exact Int.bmod_eq_of_le (by omega) (by omega)
theorem rem_B {x : Int32} {n : Nat} (hn : 0 < n) (hn2 : n < 1000) (h0 : (n : Int) ≤ x.toInt) (h1 : x.toInt < 2 * n) : x - x / o32 n * o32 n = x - o32 n := by
  have e : x / o32 n = 1 := by
    apply Int32.toInt_inj.mp
    rw [Int32.toInt_div, o_ti (by omega), Int.tdiv_eq_ediv_of_nonneg (by omega)]
    have e1 : x.toInt / (n : Int) = 1 := by
      have a : x.toInt = (x.toInt - n) + n * 1 := by omega
      rw [a, Int.add_mul_ediv_left _ _ (by omega), Int.ediv_eq_zero_of_lt (by omega) (by omega)]
      rfl
    rw [e1]
    rfl
  rw [e, show (1 : Int32) = o32 1 from rfl, o_mul, Nat.one_mul]
theorem rem_C {x : Int32} {n : Nat} (hn : 0 < n) (hn2 : n < 1000) (h0 : x.toInt < 0) (h1 : -(n : Int) < x.toInt) : x - x / o32 n * o32 n = x := by
  have e : x / o32 n = 0 := by
    apply Int32.toInt_inj.mp
    rw [Int32.toInt_div, o_ti (by omega)]
    have a : x.toInt = -(-x.toInt) := by omega
    rw [a, Int.neg_tdiv, Int.tdiv_eq_ediv_of_nonneg (by omega), Int.ediv_eq_zero_of_lt (by omega) (by omega)]
    rfl
  rw [e]
  have e2 : (0 : Int32) * o32 n = 0 := by
    rw [show (0 : Int32) = o32 0 from rfl, o_mul, Nat.zero_mul]
  rw [e2]
  apply Int32.toInt_inj.mp
  rw [Int32.toInt_sub]
  have e3 : (0 : Int32).toInt = 0 := rfl
  rw [e3, Int.sub_zero]
  exact Int.bmod_eq_of_le (by omega) (by omega)
theorem rem_D {x : Int32} {n : Nat} (hn : 0 < n) (hn2 : n < 1000) (h0 : x.toInt = -(n : Int)) : x - x / o32 n * o32 n = 0 := by
  have e : x / o32 n = -1 := by
    apply Int32.toInt_inj.mp
    rw [Int32.toInt_div, o_ti (by omega), h0, Int.neg_tdiv, Int.tdiv_self (by omega)]
    rfl
  rw [e]
  apply Int32.toInt_inj.mp
  rw [Int32.toInt_sub, Int32.toInt_mul, o_ti (by omega), h0]
  have e3 : (-1 : Int32).toInt = -1 := rfl
  rw [e3, Int.bmod_eq_of_le (n := -1 * (n : Int)) (by omega) (by omega), show -(n : Int) - -1 * (n : Int) = 0 by omega]
  rfl
/-- what stands at a place, round and round -/
theorem at_s {m : Mem} {b z : Nat} {x : Int32} {l : List Nat} (hb : b < 16) (h : rgAt m b l) (hz : z < l.length) (hx : x.toInt = (z : Int) ∨ x.toInt = (z : Int) + l.length ∨ x.toInt = (z : Int) - l.length) : fX9_at (o32 b) x m = some (o32 l[z]) := by
  obtain ⟨h1, h2, h3, h4⟩ := h
  unfold fX9_at
  rw [sd_o hb, h2]
  have n0 : ¬ o32 l.length = 0 := by
    rw [show (0 : Int32) = o32 0 from rfl, o_eq (by omega) (by omega)]
    omega
  show (if ¬ o32 l.length = 0 then _ else _) = _
  rw [if_pos n0, if_pos n0]
  have key : ((x - x / o32 l.length * o32 l.length) + o32 l.length) - ((x - x / o32 l.length * o32 l.length) + o32 l.length) / o32 l.length * o32 l.length = o32 z := by
    have zz : ∀ y : Int32, y.toInt = (z : Int) → y = o32 z := fun y hy => by
      apply Int32.toInt_inj.mp
      rw [hy, o_ti (by omega)]
    have plus : ∀ y : Int32, -100 < y.toInt → y.toInt < 100 → (y + o32 l.length).toInt = y.toInt + l.length := fun y a b => by
      rw [Int32.toInt_add, o_ti (by omega)]
      exact Int.bmod_eq_of_le (by omega) (by omega)
    have minus : ∀ y : Int32, -100 < y.toInt → y.toInt < 100 → (y - o32 l.length).toInt = y.toInt - l.length := fun y a b => by
      rw [Int32.toInt_sub, o_ti (by omega)]
      exact Int.bmod_eq_of_le (by omega) (by omega)
    rcases hx with hx | hx | hx
    · rw [rem_A (x := x) (n := l.length) (by omega) (by omega) (by omega) (by omega)]
      have e := plus x (by omega) (by omega)
      rw [rem_B (x := x + o32 l.length) (n := l.length) (by omega) (by omega) (by omega) (by omega)]
      apply zz
      rw [minus _ (by omega) (by omega)]
      omega
    · rw [rem_B (x := x) (n := l.length) (by omega) (by omega) (by omega) (by omega)]
      have e0 := minus x (by omega) (by omega)
      have e := plus (x - o32 l.length) (by omega) (by omega)
      rw [rem_B (x := x - o32 l.length + o32 l.length) (n := l.length) (by omega) (by omega) (by omega) (by omega)]
      apply zz
      rw [minus (x - o32 l.length + o32 l.length) (by omega) (by omega)]
      omega
    · by_cases hz0 : z = 0
      · rw [rem_D (x := x) (n := l.length) (by omega) (by omega) (by omega)]
        have e0 : (0 : Int32).toInt = 0 := rfl
        have e := plus 0 (by omega) (by omega)
        rw [rem_B (x := 0 + o32 l.length) (n := l.length) (by omega) (by omega) (by omega) (by omega)]
        apply zz
        rw [minus (0 + o32 l.length) (by omega) (by omega)]
        omega
      · rw [rem_C (x := x) (n := l.length) (by omega) (by omega) (by omega) (by omega)]
        have e := plus x (by omega) (by omega)
        rw [rem_A (x := x + o32 l.length) (n := l.length) (by omega) (by omega) (by omega) (by omega)]
        apply zz
        omega
  show ((fX9_of (o32 b) (6 + _) m).bind fun q4 => some q4) = _
  rw [key, rg_o hb (by omega), h4 z hz]
  rfl
/-- nothing but the ring of b is another -/
noncomputable def offR (m m' : Mem) (b : Nat) : Prop := ∀ c j, ¬ (c = 138 ∧ 12 + 50 * b + 5 ≤ j ∧ j < 12 + 50 * b + 50) → m' c j = m c j
theorem rgAt_off {m m' : Mem} {b b' : Nat} {l : List Nat} (h : rgAt m b' l) (ho : offR m m' b) (hn : b' ≠ b) : rgAt m' b' l := by
  obtain ⟨h1, h2, h3, h4⟩ := h
  refine ⟨h1, ?_, h3, fun i hi => ?_⟩
  · rw [ho 138 _ (by omega)]; exact h2
  · rw [ho 138 _ (by omega)]; exact h4 i hi
/-- the memory while ring b shuts over place i -/
noncomputable def shM (m : Mem) (b i n j : Nat) : Mem := fun c a => if c = 138 then (if a = 12 + 50 * b + 5 then o32 (n - 1) else if 12 + 50 * b + (6 + i) ≤ a ∧ a < 12 + 50 * b + (6 + i) + j then m 138 (a + 1) else m c a) else m c a
theorem mput_get (m : Mem) (c j : Nat) (x : Int32) (c' j' : Nat) : mput m c j x c' j' = if c' = c ∧ j' = j then x else m c' j' := by
  by_cases h1 : c' = c
  · subst h1
    by_cases h2 : j' = j
    · subst h2
      rw [mput_at, if_pos ⟨rfl, rfl⟩]
    · rw [mput_j _ _ _ _ h2, if_neg (fun z => h2 z.2)]
  · rw [mput_c _ _ _ h1, if_neg (fun z => h1 z.1)]
theorem shuts_s {m : Mem} {b i : Nat} {l : List Nat} (hb : b < 16) (h : rgAt m b l) (hi : i < l.length) : ∃ m', fX9_shuts (o32 b) (o32 i) m = some m' ∧ rgAt m' b (l.eraseIdx i) ∧ offR m m' b := by
  obtain ⟨h1, h2, h3, h4⟩ := h
  refine ⟨shM m b i l.length (l.length - 1 - i), ?_, ?_, ?_⟩
  · unfold fX9_shuts
    rw [sd_o hb, h2]
    show (fX9_tells (o32 b) 5 (o32 l.length - 1) m).bind _ = _
    rw [show o32 l.length - 1 = o32 (l.length - 1) from o_sub (b := 1) (by omega) (by omega), show fX9_tells (o32 b) 5 (o32 (l.length - 1)) m = _ from tl_o (f := 5) hb (by omega)]
    have e0 : mput m 138 (12 + 50 * b + 5) (o32 (l.length - 1)) = shM m b i l.length 0 := by
      funext c a
      rw [mput_get]
      unfold shM
      split <;> split <;> (try split) <;> (try split) <;> first | rfl | omega
    show lp (lX9_shuts_15 (o32 b)) fu (o32 i, mput m 138 (12 + 50 * b + 5) (o32 (l.length - 1))) = _
    rw [e0]
    refine lp_fwd (body := lX9_shuts_15 (o32 b)) (l.length - 1 - i) (fun j => (o32 (i + j), shM m b i l.length j)) fu (fun j hj => ?_) ?_ (lt_fu (by omega))
    · unfold lX9_shuts_15
      rw [sd_o hb]
      have e1 : shM m b i l.length j 138 (12 + 50 * b + 5) = o32 (l.length - 1) := by
        unfold shM
        rw [if_pos rfl, if_pos rfl]
      dsimp only
      rw [e1]
      show (if o32 (l.length - 1) ≤ o32 (i + j) then _ else _) = _
      rw [if_neg (by rw [o_le (by omega) (by omega)]; omega)]
      have e2 : ((6 : Int32) + o32 (i + j)) + 1 = 6 + o32 (i + j + 1) := by
        show (o32 6 + o32 (i + j)) + o32 1 = o32 6 + o32 (i + j + 1)
        rw [o_add, o_add, o_add]
        congr 1
      rw [e2, rg_o hb (by omega)]
      show (fX9_tells (o32 b) (6 + o32 (i + j)) _ _).bind _ = _
      rw [tr_o hb (by omega)]
      show some (Sum.inl (o32 (i + j) + 1, _)) = some (Sum.inl (o32 (i + (j + 1)), _))
      rw [o_s, show i + (j + 1) = i + j + 1 from rfl]
      congr 3
      funext c a
      rw [mput_get]
      unfold shM
      by_cases hc : c = 138
      · subst hc
        simp only [↓reduceIte, true_and]
        (repeat' split) <;> first | rfl | omega | (congr 1; omega)
      · simp only [hc, ↓reduceIte, false_and]
    · unfold lX9_shuts_15
      rw [sd_o hb]
      have e1 : shM m b i l.length (l.length - 1 - i) 138 (12 + 50 * b + 5) = o32 (l.length - 1) := by
        unfold shM
        rw [if_pos rfl, if_pos rfl]
      dsimp only
      rw [e1]
      show (if o32 (l.length - 1) ≤ o32 (i + (l.length - 1 - i)) then _ else _) = _
      rw [if_pos (by rw [o_le (by omega) (by omega)]; omega)]
  · have hl : (l.eraseIdx i).length = l.length - 1 := by rw [List.length_eraseIdx, if_pos hi]
    refine ⟨by omega, ?_, fun x hx => h3 x (List.mem_of_mem_eraseIdx hx), fun k hk => ?_⟩
    · unfold shM
      rw [if_pos rfl, if_pos rfl, hl]
    · unfold shM
      rw [if_pos rfl, if_neg (by omega), List.getElem_eraseIdx]
      by_cases hk2 : k < i
      · rw [if_neg (by omega), dif_pos hk2]
        exact h4 k (by omega)
      · rw [if_pos (by omega), dif_neg hk2]
        have := h4 (k + 1) (by omega)
        rw [← this]
        congr 1
  · intro c j hj
    unfold shM
    by_cases hc : c = 138
    · rw [if_pos hc, if_neg (by omega), if_neg (by omega)]
    · rw [if_neg hc]
/-- the memory while ring b opens at place i -/
noncomputable def opM (m : Mem) (b n j : Nat) : Mem := fun c a => if c = 138 then (if 12 + 50 * b + (6 + n) - j < a ∧ a ≤ 12 + 50 * b + (6 + n) then m 138 (a - 1) else m c a) else m c a
theorem opens_s {m : Mem} {b i x : Nat} {l : List Nat} (hb : b < 16) (h : rgAt m b l) (hi : i ≤ l.length) (hx : x ≤ 16) (hl : l.length < 44) : ∃ m', fX9_opens (o32 b) (o32 i) (o32 x) m = some m' ∧ rgAt m' b (l.insertIdx i x) ∧ offR m m' b := by
  obtain ⟨h1, h2, h3, h4⟩ := h
  refine ⟨mput (mput (opM m b l.length (l.length - i)) 138 (12 + 50 * b + (6 + i)) (o32 x)) 138 (12 + 50 * b + 5) (o32 (l.length + 1)), ?_, ?_, ?_⟩
  · unfold fX9_opens
    rw [sd_o hb, h2]
    show lp (lX9_opens_7 (o32 b) (o32 i) (o32 x)) fu (o32 l.length, m) = _
    have e0 : m = opM m b l.length 0 := by
      funext c a
      unfold opM
      split <;> (try split) <;> first | rfl | omega
    have e9 : (o32 l.length, m) = (fun j => (o32 (l.length - j), opM m b l.length j)) 0 := by
      show _ = (o32 (l.length - 0), opM m b l.length 0)
      rw [← e0]
      rfl
    rw [e9]
    refine lp_fwd (body := lX9_opens_7 (o32 b) (o32 i) (o32 x)) (l.length - i) (fun j => (o32 (l.length - j), opM m b l.length j)) fu (fun j hj => ?_) ?_ (lt_fu (by omega))
    · unfold lX9_opens_7
      dsimp only
      rw [if_neg (by rw [o_le (by omega) (by omega)]; omega)]
      have e2 : ((6 : Int32) + o32 (l.length - j)) - 1 = 6 + o32 (l.length - j - 1) := by
        show (o32 6 + o32 (l.length - j)) - o32 1 = o32 6 + o32 (l.length - j - 1)
        rw [o_add, o_add, o_sub (by omega) (by omega)]
        congr 1
        omega
      rw [e2, rg_o hb (by omega)]
      show (fX9_tells (o32 b) (6 + o32 (l.length - j)) _ _).bind _ = _
      rw [tr_o hb (by omega)]
      show some (Sum.inl (o32 (l.length - j) + -1, _)) = some (Sum.inl (o32 (l.length - (j + 1)), _))
      have e3 : o32 (l.length - j) + -1 = o32 (l.length - (j + 1)) := by
        have : (-1 : Int32) = -(1 : Int32) := rfl
        rw [this, ← Int32.sub_eq_add_neg, show (1 : Int32) = o32 1 from rfl, o_sub (by omega) (by omega)]
        congr 1
      rw [e3]
      congr 3
      funext c a
      rw [mput_get]
      unfold opM
      by_cases hc : c = 138
      · subst hc
        simp only [↓reduceIte, true_and]
        (repeat' split) <;> first | rfl | omega | (congr 1; omega)
      · simp only [hc, ↓reduceIte, false_and]
    · unfold lX9_opens_7
      dsimp only
      rw [if_pos (by rw [o_le (by omega) (by omega)]; omega), tr_o hb (by omega)]
      show (fX9_sidesOf (o32 b) _).bind _ = _
      rw [sd_o hb]
      have e1 : mput (opM m b l.length (l.length - i)) 138 (12 + 50 * b + (6 + i)) (o32 x) 138 (12 + 50 * b + 5) = o32 l.length := by
        rw [mput_get, if_neg (by omega)]
        unfold opM
        rw [if_pos rfl, if_neg (by omega)]
        exact h2
      rw [e1]
      show (fX9_tells (o32 b) 5 (o32 l.length + 1) _).bind _ = _
      rw [o_s, show fX9_tells (o32 b) 5 (o32 (l.length + 1)) _ = _ from tl_o (f := 5) hb (by omega)]
      rfl
  · have hl : (l.insertIdx i x).length = l.length + 1 := List.length_insertIdx_of_le_length hi x
    refine ⟨by omega, ?_, fun y hy => ?_, fun k hk => ?_⟩
    · rw [mput_get, if_pos ⟨rfl, rfl⟩, hl]
    · rcases (List.mem_insertIdx hi).mp hy with e | e
      · omega
      · exact h3 y e
    · rw [mput_get, if_neg (by omega), mput_get, List.getElem_insertIdx]
      by_cases hk2 : k < i
      · rw [if_neg (by omega), dif_pos hk2]
        unfold opM
        rw [if_pos rfl, if_neg (by omega)]
        exact h4 k (by omega)
      · rw [dif_neg hk2]
        by_cases hk3 : k = i
        · subst hk3
          rw [if_pos ⟨rfl, rfl⟩, dif_pos rfl]
        · rw [if_neg (by omega), dif_neg hk3]
          unfold opM
          rw [if_pos rfl, if_pos (by omega)]
          have := h4 (k - 1) (by omega)
          rw [← this]
          congr 1
          omega
  · intro c j hj
    rw [mput_get, if_neg (by omega), mput_get, if_neg (by omega)]
    unfold opM
    by_cases hc : c = 138
    · rw [if_pos hc, if_neg (by omega)]
    · rw [if_neg hc]
end
section
/-! WHO STANDS BESIDE WHOM: the abstract rings, and what a turn, a vanishing, a bursting make of them -/
noncomputable def setR (r : Nat → List Nat) (b : Nat) (l : List Nat) : Nat → List Nat := fun x => if x = b then l else r x
theorem setR_at (r : Nat → List Nat) (b : Nat) (l : List Nat) : setR r b l b = l := if_pos rfl
theorem setR_ne (r : Nat → List Nat) {b x : Nat} (l : List Nat) (h : x ≠ b) : setR r b l x = r x := if_neg h
/-- the SIDES above 3 and those on GLASS; together: it never grows -/
noncomputable def wt (l : List Nat) : Nat := (l.length - 3) + l.count 16
noncomputable def Ur (r : Nat → List Nat) (al : Nat → Bool) : Nat := ((List.range 16).map (fun b => if al b then wt (r b) else 0)).sum
theorem sum_upd {f g : Nat → Nat} {b : Nat} : ∀ (n : Nat), b < n → (∀ x, x ≠ b → g x = f x) → ((List.range n).map g).sum + f b = ((List.range n).map f).sum + g b
  | 0, h, _ => absurd h (by omega)
  | n + 1, h, hx => by
    rw [List.range_succ, List.map_append, List.map_append, List.sum_append, List.sum_append]
    show _ + [g n].sum + _ = _ + [f n].sum + _
    simp only [List.sum_cons, List.sum_nil]
    by_cases e : b = n
    · subst e
      have : (List.range b).map g = (List.range b).map f := List.map_congr_left (fun x hx2 => hx x (by have := List.mem_range.mp hx2; omega))
      rw [this]
      omega
    · have := sum_upd (f := f) (g := g) n (by omega) hx
      rw [hx n (fun z => e z.symm)]
      omega
theorem sum_ge {f : Nat → Nat} {b : Nat} : ∀ (n : Nat), b < n → f b ≤ ((List.range n).map f).sum
  | 0, h => absurd h (by omega)
  | n + 1, h => by
    rw [List.range_succ, List.map_append, List.sum_append]
    show _ ≤ _ + [f n].sum
    simp only [List.sum_cons, List.sum_nil]
    by_cases e : b = n
    · subst e; omega
    · have := sum_ge (f := f) n (b := b) (by omega)
      omega
theorem Ur_set {r : Nat → List Nat} {al : Nat → Bool} {b : Nat} {l : List Nat} (hb : b < 16) (ha : al b = true) : Ur (setR r b l) al + wt (r b) = Ur r al + wt l := by
  have := sum_upd (f := fun b => if al b then wt (r b) else 0) (g := fun x => if al x then wt (setR r b l x) else 0) (b := b) 16 hb (fun x hx => by show (if al x then wt (setR r b l x) else 0) = _; rw [setR_ne r l hx])
  simp only [ha, if_true, setR_at] at this
  exact this
theorem Ur_ge {r : Nat → List Nat} {al : Nat → Bool} {b : Nat} (hb : b < 16) (ha : al b = true) : wt (r b) ≤ Ur r al := by
  have := sum_ge (f := fun b => if al b then wt (r b) else 0) (b := b) 16 hb
  simp only [ha, if_true] at this
  exact this
theorem len_sum {n : Nat} : ∀ (l : List Nat), (∀ x ∈ l, x < n) → l.length = ((List.range n).map (fun x => l.count x)).sum
  | [], _ => by
    have : ∀ n : Nat, ((List.range n).map (fun x => ([] : List Nat).count x)).sum = 0 := fun n => by
      induction n with
      | zero => rfl
      | succ n ih => rw [List.range_succ, List.map_append, List.sum_append, ih]; rfl
    rw [this]; rfl
  | y :: l, h => by
    have ih := len_sum l (fun x hx => h x (List.mem_cons_of_mem _ hx))
    have := sum_upd (f := fun x => l.count x) (g := fun x => (y :: l).count x) (b := y) n (h y List.mem_cons_self) (fun x hx => by show (y :: l).count x = _; rw [List.count_cons_of_ne (Ne.symm hx)])
    simp only [List.count_cons_self] at this
    rw [List.length_cons]
    omega
theorem sum_le1 {f : Nat → Nat} : ∀ (n : Nat), (∀ x, x < n → f x ≤ 1) → ((List.range n).map f).sum ≤ n
  | 0, _ => Nat.le_refl _
  | n + 1, h => by
    rw [List.range_succ, List.map_append, List.sum_append]
    show _ + [f n].sum ≤ _
    simp only [List.sum_cons, List.sum_nil]
    have := sum_le1 n (fun x hx => h x (by omega))
    have := h n (by omega)
    omega
/-- a ring without itself, no BUBBLE twice: at most 15 BUBBLES -/
theorem len_15 {l : List Nat} {b : Nat} (hb : b < 16) (h1 : ∀ x ∈ l, x ≤ 16) (h2 : b ∉ l) (h3 : ∀ x, x ≠ 16 → l.count x ≤ 1) : l.length ≤ l.count 16 + 15 := by
  have e := len_sum (n := 17) l (fun x hx => by have := h1 x hx; omega)
  rw [List.range_succ, List.map_append, List.sum_append] at e
  have e1 : ([16].map (fun x => l.count x)).sum = l.count 16 := by simp
  rw [e1] at e
  have u := sum_upd (f := fun x => l.count x) (g := fun x => if x = b then 1 else l.count x) (b := b) 16 hb (fun x hx => if_neg hx)
  have s := sum_le1 (f := fun x => if x = b then 1 else l.count x) 16 (fun x hx => by
    show (if x = b then 1 else l.count x) ≤ 1
    split
    · omega
    · exact h3 x (by omega))
  have z : l.count b = 0 := List.count_eq_zero_of_not_mem h2
  simp only [if_true] at u
  omega
/-- the rings are those of a graph -/
noncomputable def Gr (r : Nat → List Nat) (al : Nat → Bool) : Prop := (∀ b, b < 16 → al b = true → ∀ x ∈ r b, x ≤ 16 ∧ (x ≠ 16 → al x = true ∧ x ≠ b ∧ b ∈ r x)) ∧ (∀ b, b < 16 → al b = true → ∀ x, x ≠ 16 → (r b).count x ≤ 1) ∧ Ur r al ≤ 42
theorem Gr_len {r : Nat → List Nat} {al : Nat → Bool} {b : Nat} (h : Gr r al) (hb : b < 16) (ha : al b = true) : (r b).length ≤ 30 := by
  have u := Ur_ge (r := r) hb ha
  have u2 := h.2.2
  have l := len_15 hb (fun x hx => (h.1 b hb ha x hx).1) (fun w => ((h.1 b hb ha b w).2 (by omega)).2.1 rfl) (h.2.1 b hb ha)
  unfold wt at u
  omega
/-- the model's memory has these rings -/
noncomputable def RS (m : Mem) (r : Nat → List Nat) (al : Nat → Bool) : Prop := ∀ b, b < 16 → m 138 (12 + 50 * b) = (if al b then 1 else 0) ∧ (al b = true → rgAt m b (r b))
/-- what stands ahead, and behind -/
noncomputable def prv (l : List Nat) (x : Nat) : Nat := l.getD ((l.idxOf x + l.length - 1) % l.length) 0
noncomputable def nxt (l : List Nat) (x : Nat) : Nat := l.getD ((l.idxOf x + 1) % l.length) 0
theorem plc_in {l : List Nat} {x : Nat} (h : x ∈ l) : plc l x = o32 (l.idxOf x) := if_pos h
theorem ahead_s {m : Mem} {b x : Nat} {l : List Nat} (hb : b < 16) (hx : x ≤ 16) (h : rgAt m b l) (hm : x ∈ l) : fX9_ahead (o32 b) (o32 x) m = some (o32 (prv l x)) := by
  have hi := List.idxOf_lt_length_of_mem hm
  have h1 := h.1
  unfold fX9_ahead
  rw [placeIn_s hb hx h, plc_in hm]
  show ((fX9_at (o32 b) (o32 (l.idxOf x) - 1) m).bind fun q2 => some q2) = _
  have hz : (l.idxOf x + l.length - 1) % l.length < l.length := Nat.mod_lt _ (by omega)
  rw [at_s hb h hz]
  · show some (o32 l[(l.idxOf x + l.length - 1) % l.length]) = some (o32 (prv l x))
    unfold prv
    rw [List.getD_eq_getElem?_getD, List.getElem?_eq_getElem hz]
    rfl
  · have e : (o32 (l.idxOf x) - 1).toInt = (l.idxOf x : Int) - 1 := by
      rw [Int32.toInt_sub, o_ti (by omega)]
      have e1 : (1 : Int32).toInt = 1 := rfl
      rw [e1]
      exact Int.bmod_eq_of_le (by omega) (by omega)
    rw [e]
    by_cases h0 : l.idxOf x = 0
    · right; right
      rw [h0, Nat.zero_add, Nat.mod_eq_of_lt (by omega)]
      omega
    · left
      have : l.idxOf x + l.length - 1 = (l.idxOf x - 1) + l.length := by omega
      rw [this, Nat.add_mod_right, Nat.mod_eq_of_lt (by omega)]
      omega
theorem behind_s {m : Mem} {b x : Nat} {l : List Nat} (hb : b < 16) (hx : x ≤ 16) (h : rgAt m b l) (hm : x ∈ l) : fX9_behind (o32 b) (o32 x) m = some (o32 (nxt l x)) := by
  have hi := List.idxOf_lt_length_of_mem hm
  have h1 := h.1
  unfold fX9_behind
  rw [placeIn_s hb hx h, plc_in hm]
  show ((fX9_at (o32 b) (o32 (l.idxOf x) + 1) m).bind fun q2 => some q2) = _
  have hz : (l.idxOf x + 1) % l.length < l.length := Nat.mod_lt _ (by omega)
  rw [at_s hb h hz]
  · show some (o32 l[(l.idxOf x + 1) % l.length]) = some (o32 (nxt l x))
    unfold nxt
    rw [List.getD_eq_getElem?_getD, List.getElem?_eq_getElem hz]
    rfl
  · rw [o_s, o_ti (by omega)]
    by_cases h0 : l.idxOf x + 1 = l.length
    · right; left
      rw [h0, Nat.mod_self]
      omega
    · left
      rw [Nat.mod_eq_of_lt (by omega)]
theorem prv_mem {l : List Nat} {x : Nat} (h : x ∈ l) : prv l x ∈ l := by
  have hi := List.idxOf_lt_length_of_mem h
  unfold prv
  have hz : (l.idxOf x + l.length - 1) % l.length < l.length := Nat.mod_lt _ (by omega)
  rw [List.getD_eq_getElem?_getD, List.getElem?_eq_getElem hz]
  exact List.getElem_mem hz
theorem nxt_mem {l : List Nat} {x : Nat} (h : x ∈ l) : nxt l x ∈ l := by
  have hi := List.idxOf_lt_length_of_mem h
  unfold nxt
  have hz : (l.idxOf x + 1) % l.length < l.length := Nat.mod_lt _ (by omega)
  rw [List.getD_eq_getElem?_getD, List.getElem?_eq_getElem hz]
  exact List.getElem_mem hz
theorem count_two {l : List Nat} {x i j : Nat} (hc : l.count x ≤ 1) (hi : i < l.length) (hj : j < l.length) (h1 : l[i] = x) (h2 : l[j] = x) : i = j := by
  have key : ∀ (l : List Nat) (i j : Nat) (hi : i < l.length) (hj : j < l.length), i < j → l[i] = x → l[j] = x → 2 ≤ l.count x := by
    intro l
    induction l with
    | nil => intro i j hi; exact absurd hi (by simp)
    | cons a l ih =>
      intro i j hi hj hij e1 e2
      cases j with
      | zero => omega
      | succ j =>
        have e2 : l[j]'(by simpa using hj) = x := e2
        have hm : 1 ≤ l.count x := List.count_pos_iff.mpr (by rw [← e2]; exact List.getElem_mem _)
        cases i with
        | zero =>
          have e1 : a = x := e1
          rw [e1, List.count_cons_self]
          omega
        | succ i =>
          have := ih i j (by simpa using hi) (by simpa using hj) (by omega) e1 e2
          rw [List.count_cons]
          omega
  rcases Nat.lt_trichotomy i j with h | h | h
  · have := key l i j hi hj h h1 h2; omega
  · exact h
  · have := key l j i hj hi h h2 h1; omega
theorem idx_get {l : List Nat} {x : Nat} (h : x ∈ l) : l[l.idxOf x]'(List.idxOf_lt_length_of_mem h) = x := List.getElem_idxOf _
theorem prv_ne {l : List Nat} {x : Nat} (h : x ∈ l) (hc : l.count x ≤ 1) (hl : 2 ≤ l.length) : prv l x ≠ x := by
  intro e
  have hi := List.idxOf_lt_length_of_mem h
  have hz : (l.idxOf x + l.length - 1) % l.length < l.length := Nat.mod_lt _ (by omega)
  have e2 : l[(l.idxOf x + l.length - 1) % l.length] = x := by
    unfold prv at e
    rw [List.getD_eq_getElem?_getD, List.getElem?_eq_getElem hz] at e
    exact e
  have e3 := count_two hc hz hi e2 (idx_get h)
  by_cases h0 : l.idxOf x = 0
  · rw [h0, Nat.zero_add, Nat.mod_eq_of_lt (by omega)] at e3
    omega
  · have : l.idxOf x + l.length - 1 = (l.idxOf x - 1) + l.length := by omega
    rw [this, Nat.add_mod_right, Nat.mod_eq_of_lt (by omega)] at e3
    omega
theorem nxt_ne {l : List Nat} {x : Nat} (h : x ∈ l) (hc : l.count x ≤ 1) (hl : 2 ≤ l.length) : nxt l x ≠ x := by
  intro e
  have hi := List.idxOf_lt_length_of_mem h
  have hz : (l.idxOf x + 1) % l.length < l.length := Nat.mod_lt _ (by omega)
  have e2 : l[(l.idxOf x + 1) % l.length] = x := by
    unfold nxt at e
    rw [List.getD_eq_getElem?_getD, List.getElem?_eq_getElem hz] at e
    exact e
  have e3 := count_two hc hz hi e2 (idx_get h)
  by_cases h0 : l.idxOf x + 1 = l.length
  · rw [h0, Nat.mod_self] at e3
    omega
  · rw [Nat.mod_eq_of_lt (by omega)] at e3
    omega
end
section
/-! A TURN -/
noncomputable def frR (m m' : Mem) : Prop := ∀ c j, ¬ (c = 138 ∧ ∃ b, b < 16 ∧ 12 + 50 * b + 5 ≤ j ∧ j < 12 + 50 * b + 50) → m' c j = m c j
theorem frR_rf {m : Mem} : frR m m := fun _ _ _ => rfl
theorem frR_tr {m m1 m2 : Mem} (h1 : frR m m1) (h2 : frR m1 m2) : frR m m2 := fun c j h => (h2 c j h).trans (h1 c j h)
theorem frR_of {m m' : Mem} {b : Nat} (hb : b < 16) (h : offR m m' b) : frR m m' := fun c j hn => h c j (fun z => hn ⟨z.1, b, hb, z.2⟩)
theorem RS_set {m m' : Mem} {r : Nat → List Nat} {al : Nat → Bool} {b : Nat} {l : List Nat} (hb : b < 16) (h : RS m r al) (ho : offR m m' b) (hl : rgAt m' b l) : RS m' (setR r b l) al := by
  intro x hx
  refine ⟨?_, fun ha => ?_⟩
  · rw [ho 138 _ (by omega)]
    exact (h x hx).1
  · by_cases e : x = b
    · subst e
      rw [setR_at]
      exact hl
    · rw [setR_ne r l e]
      exact rgAt_off ((h x hx).2 ha) ho e
theorem rgAt_put {m : Mem} {b j : Nat} {x : Int32} {l : List Nat} (h : rgAt m b l) (hj : j < 12 ∨ 812 ≤ j) (hb : b < 16) : rgAt (mput m 138 j x) b l := by
  obtain ⟨h1, h2, h3, h4⟩ := h
  refine ⟨h1, ?_, h3, fun i hi => ?_⟩
  · rw [mput_get, if_neg (by omega)]; exact h2
  · rw [mput_get, if_neg (by omega)]; exact h4 i hi
theorem RS_put {m : Mem} {r : Nat → List Nat} {al : Nat → Bool} {j : Nat} {x : Int32} (h : RS m r al) (hj : j < 12 ∨ 812 ≤ j) : RS (mput m 138 j x) r al := fun b hb => ⟨by rw [mput_get, if_neg (by omega)]; exact (h b hb).1, fun ha => rgAt_put ((h b hb).2 ha) hj hb⟩
noncomputable def rmv (l : List Nat) (x : Nat) : List Nat := l.eraseIdx (l.idxOf x)
theorem rmv_eq (l : List Nat) (x : Nat) : rmv l x = l.erase x := by
  unfold rmv
  induction l with
  | nil => rfl
  | cons a l ih =>
    rw [List.idxOf_cons, List.erase_cons]
    by_cases h : (a == x) = true
    · rw [h]; rfl
    · have h' : (a == x) = false := by simpa using h
      rw [h']
      show a :: l.eraseIdx (l.idxOf x) = a :: l.erase x
      rw [ih]
theorem rmv_count (l : List Nat) (x y : Nat) : (rmv l x).count y = l.count y - (if y = x then 1 else 0) := by
  rw [rmv_eq, List.count_erase]
  by_cases h : y = x
  · subst h; simp
  · have : (x == y) = false := by simpa using fun z => h z.symm
    rw [this, if_neg h]; rfl
theorem rmv_mem {l : List Nat} {x y : Nat} (hc : l.count x ≤ 1) : y ∈ rmv l x ↔ y ∈ l ∧ y ≠ x := by
  rw [← List.count_pos_iff, rmv_count, ← List.count_pos_iff]
  by_cases h : y = x
  · subst h
    rw [if_pos rfl]
    omega
  · rw [if_neg h]
    exact ⟨fun z => ⟨by omega, h⟩, fun z => by omega⟩
theorem rmv_len {l : List Nat} {x : Nat} (h : x ∈ l) : (rmv l x).length = l.length - 1 := by
  unfold rmv
  rw [List.length_eraseIdx, if_pos (List.idxOf_lt_length_of_mem h)]
/-- where x comes: right behind y (or first) -/
noncomputable def insb (l : List Nat) (y x : Nat) : List Nat := l.insertIdx (if y ∈ l then l.idxOf y + 1 else 0) x
theorem insb_le (l : List Nat) (y : Nat) : (if y ∈ l then l.idxOf y + 1 else 0) ≤ l.length := by
  by_cases h : y ∈ l
  · rw [if_pos h]; exact List.idxOf_lt_length_of_mem h
  · rw [if_neg h]; exact Nat.zero_le _
theorem insb_len (l : List Nat) (y x : Nat) : (insb l y x).length = l.length + 1 := List.length_insertIdx_of_le_length (insb_le l y) x
theorem insb_mem (l : List Nat) (y x z : Nat) : z ∈ insb l y x ↔ z = x ∨ z ∈ l := List.mem_insertIdx (insb_le l y)
theorem insb_count (l : List Nat) (y x z : Nat) : (insb l y x).count z = l.count z + (if z = x then 1 else 0) := by
  have := (List.perm_insertIdx x l (insb_le l y)).count_eq z
  show (l.insertIdx _ x).count z = _
  rw [this, List.count_cons]
  by_cases h : z = x
  · subst h; simp
  · have : (x == z) = false := by simpa using fun w => h w.symm
    rw [this, if_neg h]; rfl
theorem plc_s1 (l : List Nat) (y : Nat) (hl : l.length < 1000) : plc l y + 1 = o32 (if y ∈ l then l.idxOf y + 1 else 0) := by
  unfold plc
  by_cases h : y ∈ l
  · rw [if_pos h, if_pos h, o_s]
  · rw [if_neg h, if_neg h]; rfl
noncomputable def turnR (r : Nat → List Nat) (a b : Nat) : Nat → List Nat :=
  let c := prv (r a) b
  let d := nxt (r a) b
  let r2 := setR (setR r a (rmv (r a) b)) b (rmv (r b) a)
  let r3 := if c = 16 then r2 else setR r2 c (insb (r2 c) b d)
  if d = 16 then r3 else setR r3 d (insb (r3 d) a c)
theorem shutsP {m : Mem} {b x : Nat} {l : List Nat} (hb : b < 16) (h : rgAt m b l) (hm : x ∈ l) : ∃ m', fX9_shuts (o32 b) (plc l x) m = some m' ∧ rgAt m' b (rmv l x) ∧ offR m m' b := by
  rw [plc_in hm]
  exact shuts_s hb h (List.idxOf_lt_length_of_mem hm)
theorem opensP {m : Mem} {b x y : Nat} {l : List Nat} (hb : b < 16) (h : rgAt m b l) (hx : x ≤ 16) (hl : l.length < 44) : ∃ m', fX9_opens (o32 b) (plc l y + 1) (o32 x) m = some m' ∧ rgAt m' b (insb l y x) ∧ offR m m' b := by
  rw [plc_s1 l y (by omega)]
  exact opens_s hb h (insb_le l y) hx hl
theorem turns_s {m : Mem} {r : Nat → List Nat} {al : Nat → Bool} {a b : Nat} (ha : a < 16) (hb : b < 16) (hs : RS m r al) (hg : Gr r al) (ala : al a = true) (alb : al b = true) (hab : b ∈ r a) (hla : 4 ≤ (r a).length) (hcd : prv (r a) b ≠ nxt (r a) b) :
    ∃ m', fX9_turns (o32 a) (o32 b) m = some (mput m' 138 8 (m 138 8 + 1)) ∧ RS m' (turnR r a b) al ∧ frR m m' := by
  obtain ⟨g1, g2, g3⟩ := hg
  have hg : Gr r al := ⟨g1, g2, g3⟩
  have sa := (hs a ha).2 ala
  have ba := g1 a ha ala b hab
  have hba : b ≠ a := (ba.2 (by omega)).2.1
  have hab2 : a ∈ r b := (ba.2 (by omega)).2.2
  have hc := prv_mem hab
  have hd := nxt_mem hab
  have hcb : prv (r a) b ≠ b := prv_ne hab (g2 a ha ala b (by omega)) (by omega)
  have hdb : nxt (r a) b ≠ b := nxt_ne hab (g2 a ha ala b (by omega)) (by omega)
  have pc := g1 a ha ala _ hc
  have pd := g1 a ha ala _ hd
  generalize hcc : prv (r a) b = c at hcd hc hcb pc
  generalize hdd : nxt (r a) b = d at hcd hd hdb pd
  have e16 : ∀ z, z ≤ 16 → (o32 z = 16 ↔ z = 16) := fun z hz => by rw [show (16 : Int32) = o32 16 from rfl, o_eq (by omega) (by omega)]
  have m8 : ∀ m3 : Mem, frR m m3 → m3 138 8 = m 138 8 := fun m3 h3 => h3 138 8 (fun z => by obtain ⟨_, b, _, h, _⟩ := z; omega)
  have fin : ∀ (m3 : Mem) (r3 : Nat → List Nat), RS m3 r3 al → frR m m3 → (d ≠ 16 → (r3 d).length < 44) → ∃ m', bX9_turns_58 (o32 a) (o32 c) (o32 d) m3 = some (mput m' 138 8 (m 138 8 + 1)) ∧ RS m' (if d = 16 then r3 else setR r3 d (insb (r3 d) a c)) al ∧ frR m m' := by
    intro m3 r3 S3 f3 hl3
    unfold bX9_turns_58 bX9_turns_81
    by_cases h16 : d = 16
    · rw [if_pos ((e16 d pd.1).mpr h16), if_pos h16]
      exact ⟨m3, by rw [m8 m3 f3], S3, f3⟩
    · have hd16 : d < 16 := by have := pd.1; omega
      have sd := (S3 d hd16).2 (pd.2 h16).1
      rw [if_neg (fun z => h16 ((e16 d pd.1).mp z)), if_neg h16, placeIn_s hd16 (by omega) sd, Option.bind_some]
      obtain ⟨m4, e4, s4, o4⟩ := opensP (x := c) (y := a) hd16 sd pc.1 (hl3 h16)
      rw [e4, Option.bind_some]
      have f4 := frR_tr f3 (frR_of hd16 o4)
      exact ⟨m4, by rw [m8 m4 f4], RS_set hd16 S3 o4 s4, f4⟩
  unfold fX9_turns turnR
  rw [ahead_s ha (by omega) sa hab, hcc, Option.bind_some, behind_s ha (by omega) sa hab, hdd, Option.bind_some, placeIn_s ha (by omega) sa, Option.bind_some]
  obtain ⟨m1, e1, s1, o1⟩ := shutsP ha sa hab
  rw [e1, Option.bind_some]
  have S1 := RS_set ha hs o1 s1
  have sb1 : rgAt m1 b (r b) := rgAt_off ((hs b hb).2 alb) o1 hba
  rw [placeIn_s hb (by omega) sb1, Option.bind_some]
  obtain ⟨m2, e2, s2, o2⟩ := shutsP hb sb1 hab2
  rw [e2, Option.bind_some]
  have S2 : RS m2 (setR (setR r a (rmv (r a) b)) b (rmv (r b) a)) al := RS_set hb S1 o2 s2
  have f2 : frR m m2 := frR_tr (frR_of ha o1) (frR_of hb o2)
  dsimp only
  by_cases hc16 : c = 16
  · rw [if_pos ((e16 c pc.1).mpr hc16), if_pos hc16]
    refine fin m2 _ S2 f2 (fun h16 => ?_)
    have hd16 : d < 16 := by have := pd.1; omega
    rw [setR_ne _ _ hdb, setR_ne _ _ (pd.2 h16).2.1]
    have := Gr_len hg hd16 (pd.2 h16).1
    omega
  · have hc' : c < 16 := by have := pc.1; omega
    have ec : (setR (setR r a (rmv (r a) b)) b (rmv (r b) a)) c = r c := by rw [setR_ne _ _ hcb, setR_ne _ _ (pc.2 hc16).2.1]
    have sc := (S2 c hc').2 (pc.2 hc16).1
    have lc := Gr_len hg hc' (pc.2 hc16).1
    rw [if_neg (fun z => hc16 ((e16 c pc.1).mp z)), if_neg hc16, placeIn_s hc' (by omega) sc, Option.bind_some]
    obtain ⟨m3, e3, s3, o3⟩ := opensP (x := d) (y := b) hc' sc pd.1 (by rw [ec]; omega)
    rw [e3, Option.bind_some]
    refine fin m3 _ (RS_set hc' S2 o3 s3) (frR_tr f2 (frR_of hc' o3)) (fun h16 => ?_)
    have hd16 : d < 16 := by have := pd.1; omega
    rw [setR_ne _ _ (fun z => hcd z.symm), setR_ne _ _ hdb, setR_ne _ _ (pd.2 h16).2.1]
    have := Gr_len hg hd16 (pd.2 h16).1
    omega
theorem turn_at {r : Nat → List Nat} {a b x : Nat} (hab : a ≠ b) (hca : prv (r a) b ≠ a) (hcb : prv (r a) b ≠ b) (hda : nxt (r a) b ≠ a) (hdb : nxt (r a) b ≠ b) (hcd : prv (r a) b ≠ nxt (r a) b) : turnR r a b x = if x = a then rmv (r a) b else if x = b then rmv (r b) a else if x = prv (r a) b ∧ x ≠ 16 then insb (r x) b (nxt (r a) b) else if x = nxt (r a) b ∧ x ≠ 16 then insb (r x) a (prv (r a) b) else r x := by
  unfold turnR
  generalize prv (r a) b = c at hca hcb hcd
  generalize nxt (r a) b = d at hda hdb hcd
  have q1 := hab.symm
  have q2 := hca.symm
  have q3 := hcb.symm
  have q4 := hda.symm
  have q5 := hdb.symm
  have q6 := hcd.symm
  unfold setR
  by_cases h1 : x = a
  · subst h1
    rw [if_pos rfl]
    split <;> split <;> simp_all
  · rw [if_neg h1]
    by_cases h2 : x = b
    · subst h2
      rw [if_pos rfl]
      split <;> split <;> simp_all
    · rw [if_neg h2]
      by_cases h3 : x = c
      · subst h3
        split <;> split <;> simp_all
      · by_cases h4 : x = d
        · subst h4
          split <;> split <;> simp_all
        · split <;> split <;> simp_all
theorem wt_rmv {l : List Nat} {x : Nat} (h : x ∈ l) (h16 : x ≠ 16) (hl : 4 ≤ l.length) : wt (rmv l x) + 1 = wt l := by
  unfold wt
  rw [rmv_len h, rmv_count, if_neg (Ne.symm h16)]
  omega
theorem wt_insb (l : List Nat) (y x : Nat) : wt (insb l y x) ≤ wt l + 1 + (if x = 16 then 1 else 0) := by
  unfold wt
  rw [insb_len, insb_count]
  by_cases e : x = 16
  · rw [if_pos e, if_pos e.symm]; omega
  · rw [if_neg e, if_neg (Ne.symm e)]; omega
theorem turn_Gr {r : Nat → List Nat} {al : Nat → Bool} {a b : Nat} (ha : a < 16) (hb : b < 16) (hg : Gr r al) (ala : al a = true) (alb : al b = true) (hab : b ∈ r a) (hla : 4 ≤ (r a).length) (hlb : 4 ≤ (r b).length) (hcd : prv (r a) b ≠ nxt (r a) b) (hn : if prv (r a) b = 16 then 16 ∉ r (nxt (r a) b) else nxt (r a) b ∉ r (prv (r a) b)) : Gr (turnR r a b) al := by
  obtain ⟨g1, g2, g3⟩ := hg
  have ba := g1 a ha ala b hab
  have hba : b ≠ a := (ba.2 (by omega)).2.1
  have hab2 : a ∈ r b := (ba.2 (by omega)).2.2
  have hc := prv_mem hab
  have hd := nxt_mem hab
  have hcb : prv (r a) b ≠ b := prv_ne hab (g2 a ha ala b (by omega)) (by omega)
  have hdb : nxt (r a) b ≠ b := nxt_ne hab (g2 a ha ala b (by omega)) (by omega)
  have pc := g1 a ha ala _ hc
  have pd := g1 a ha ala _ hd
  have hca : prv (r a) b ≠ a := fun z => by
    by_cases e : prv (r a) b = 16
    · omega
    · exact (pc.2 e).2.1 z
  have hda : nxt (r a) b ≠ a := fun z => by
    by_cases e : nxt (r a) b = 16
    · omega
    · exact (pd.2 e).2.1 z
  have T : ∀ x, turnR r a b x = _ := fun x => turn_at (x := x) (fun z => hba z.symm) hca hcb hda hdb hcd
  have hU : Ur (turnR r a b) al ≤ Ur r al := by
    unfold turnR
    dsimp only
    generalize prv (r a) b = c at hc hcb pc hca hcd hn T
    generalize nxt (r a) b = d at hd hdb pd hda hcd hn T
    have u1 := Ur_set (r := r) (l := rmv (r a) b) ha ala
    have u2 := Ur_set (r := setR r a (rmv (r a) b)) (l := rmv (r b) a) hb alb
    rw [setR_ne _ _ hba] at u2
    have w1 := wt_rmv hab (by omega) hla
    have w2 := wt_rmv hab2 (by omega) hlb
    have u3 : Ur (if c = 16 then setR (setR r a (rmv (r a) b)) b (rmv (r b) a) else setR (setR (setR r a (rmv (r a) b)) b (rmv (r b) a)) c (insb (setR (setR r a (rmv (r a) b)) b (rmv (r b) a) c) b d)) al ≤ Ur (setR (setR r a (rmv (r a) b)) b (rmv (r b) a)) al + (if c = 16 then 0 else if d = 16 then 2 else 1) := by
      by_cases e : c = 16
      · rw [if_pos e, if_pos e]; omega
      · rw [if_neg e, if_neg e]
        have := Ur_set (r := setR (setR r a (rmv (r a) b)) b (rmv (r b) a)) (l := insb (setR (setR r a (rmv (r a) b)) b (rmv (r b) a) c) b d) (b := c) (by have := pc.1; omega) (pc.2 e).1
        have w := wt_insb (setR (setR r a (rmv (r a) b)) b (rmv (r b) a) c) b d
        by_cases e2 : d = 16
        · rw [if_pos e2] at w ⊢; omega
        · rw [if_neg e2] at w ⊢; omega
    generalize (if c = 16 then setR (setR r a (rmv (r a) b)) b (rmv (r b) a) else setR (setR (setR r a (rmv (r a) b)) b (rmv (r b) a)) c (insb (setR (setR r a (rmv (r a) b)) b (rmv (r b) a) c) b d)) = r3 at u3
    by_cases e : d = 16
    · rw [if_pos e]
      rw [if_neg (fun z => hcd (by rw [z, e])), if_pos e] at u3
      omega
    · rw [if_neg e]
      rw [if_neg e] at u3
      have := Ur_set (r := r3) (l := insb (r3 d) a c) (b := d) (by have := pd.1; omega) (pd.2 e).1
      have w := wt_insb (r3 d) a c
      by_cases e2 : c = 16
      · rw [if_pos e2] at w u3; omega
      · rw [if_neg e2] at w u3; omega
  generalize hcc : prv (r a) b = c at hc hcb pc hca hcd hn T
  generalize hdd : nxt (r a) b = d at hd hdb pd hda hcd hn T
  have cnd : d ≠ 16 → c ≠ 16 → d ∉ r c ∧ c ∉ r d := fun h1 h2 => by
    rw [if_neg h2] at hn
    refine ⟨hn, fun z => hn ?_⟩
    exact ((g1 d (by have := pd.1; omega) (pd.2 h1).1 c z).2 h2).2.2
  have memT : ∀ x y, x < 16 → al x = true → y ≠ 16 → (y ∈ turnR r a b x ↔ (y ∈ r x ∧ ¬ (x = a ∧ y = b) ∧ ¬ (x = b ∧ y = a)) ∨ (x = c ∧ y = d) ∨ (x = d ∧ y = c)) := by
    intro x y hx hax hy
    rw [T x]
    by_cases h1 : x = a
    · subst h1
      rw [if_pos rfl, rmv_mem (g2 x hx hax b (by omega))]
      constructor
      · intro z; exact Or.inl ⟨z.1, fun w => z.2 w.2, fun w => hba w.1.symm⟩
      · rintro (z | z | z)
        · exact ⟨z.1, fun w => z.2.1 ⟨rfl, w⟩⟩
        · exact absurd z.1.symm hca
        · exact absurd z.1.symm hda
    · rw [if_neg h1]
      by_cases h2 : x = b
      · subst h2
        rw [if_pos rfl, rmv_mem (g2 x hx hax a (by omega))]
        constructor
        · intro z; exact Or.inl ⟨z.1, fun w => h1 w.1, fun w => z.2 w.2⟩
        · rintro (z | z | z)
          · exact ⟨z.1, fun w => z.2.2 ⟨rfl, w⟩⟩
          · exact absurd z.1.symm hcb
          · exact absurd z.1.symm hdb
      · rw [if_neg h2]
        by_cases h3 : x = c
        · subst h3
          rw [if_pos ⟨rfl, by omega⟩, insb_mem]
          constructor
          · rintro (z | z)
            · exact Or.inr (Or.inl ⟨rfl, z⟩)
            · exact Or.inl ⟨z, fun w => h1 w.1, fun w => h2 w.1⟩
          · rintro (z | z | z)
            · exact Or.inr z.1
            · exact Or.inl z.2
            · exact absurd z.1 hcd
        · rw [if_neg (fun z => h3 z.1)]
          by_cases h4 : x = d
          · subst h4
            rw [if_pos ⟨rfl, by omega⟩, insb_mem]
            constructor
            · rintro (z | z)
              · exact Or.inr (Or.inr ⟨rfl, z⟩)
              · exact Or.inl ⟨z, fun w => h1 w.1, fun w => h2 w.1⟩
            · rintro (z | z | z)
              · exact Or.inr z.1
              · exact absurd z.1 h3
              · exact Or.inl z.2
          · rw [if_neg (fun z => h4 z.1)]
            constructor
            · intro z; exact Or.inl ⟨z, fun w => h1 w.1, fun w => h2 w.1⟩
            · rintro (z | z | z)
              · exact z.1
              · exact absurd z.1 h3
              · exact absurd z.1 h4
  have le16 : ∀ x, x < 16 → al x = true → ∀ y ∈ turnR r a b x, y ≤ 16 := by
    intro x hx hax y hy
    by_cases hy16 : y = 16
    · omega
    · rcases (memT x y hx hax hy16).mp hy with z | z | z
      · exact (g1 x hx hax y z.1).1
      · rw [z.2]; exact pd.1
      · rw [z.2]; exact pc.1
  refine ⟨fun x hx hax y hy => ⟨le16 x hx hax y hy, fun hy16 => ?_⟩, fun x hx hax y hy16 => ?_, Nat.le_trans hU g3⟩
  · have hy' : y < 16 := by have := le16 x hx hax y hy; omega
    rcases (memT x y hx hax hy16).mp hy with z | z | z
    · have p := (g1 x hx hax y z.1).2 hy16
      refine ⟨p.1, p.2.1, (memT y x hy' p.1 (by omega)).mpr (Or.inl ⟨p.2.2, fun w => z.2.2 ⟨w.2, w.1⟩, fun w => z.2.1 ⟨w.2, w.1⟩⟩)⟩
    · obtain ⟨z1, z2⟩ := z
      subst z1
      subst z2
      exact ⟨(pd.2 hy16).1, fun w => hcd w.symm, (memT y x hy' (pd.2 hy16).1 (by omega)).mpr (Or.inr (Or.inr ⟨rfl, rfl⟩))⟩
    · obtain ⟨z1, z2⟩ := z
      subst z1
      subst z2
      exact ⟨(pc.2 hy16).1, hcd, (memT y x hy' (pc.2 hy16).1 (by omega)).mpr (Or.inr (Or.inl ⟨rfl, rfl⟩))⟩
  · rw [T x]
    by_cases h1 : x = a
    · subst h1
      rw [if_pos rfl, rmv_count]
      have := g2 x hx hax y hy16
      omega
    · rw [if_neg h1]
      by_cases h2 : x = b
      · subst h2
        rw [if_pos rfl, rmv_count]
        have := g2 x hx hax y hy16
        omega
      · rw [if_neg h2]
        by_cases h3 : x = c
        · subst h3
          rw [if_pos ⟨rfl, by omega⟩, insb_count]
          by_cases e : y = d
          · have h0 := (cnd (by omega) (by omega)).1
            rw [if_pos e, e, List.count_eq_zero.mpr h0]
            omega
          · rw [if_neg e]
            exact g2 x hx hax y hy16
        · rw [if_neg (fun z => h3 z.1)]
          by_cases h4 : x = d
          · subst h4
            rw [if_pos ⟨rfl, by omega⟩, insb_count]
            by_cases e : y = c
            · have h0 := (cnd (by omega) (by omega)).2
              rw [if_pos e, e, List.count_eq_zero.mpr h0]
              omega
            · rw [if_neg e]
              exact g2 x hx hax y hy16
          · rw [if_neg (fun z => h4 z.1)]
            exact g2 x hx hax y hy16
end
section
/-! RINGS AS CYCLES: who comes next, who ahead, when one goes out or comes in -/
noncomputable def hd (l : List Nat) : Nat := l.headD 0
theorem hd_c (a : Nat) (l : List Nat) : hd (a :: l) = a := rfl
theorem hd_n (l : List Nat) : hd ([] ++ l) = hd l := rfl
theorem ends (l : List Nat) : l = [] ∨ ∃ A z, l = A ++ [z] := by
  by_cases h : l = []
  · exact Or.inl h
  · exact Or.inr ⟨l.dropLast, l.getLast h, (List.dropLast_concat_getLast h).symm⟩
theorem nxt_sp {A B : List Nat} {x : Nat} (h : x ∉ A) : nxt (A ++ x :: B) x = hd (B ++ (A ++ [x])) := by
  have hi : (A ++ x :: B).idxOf x = A.length := by
    rw [List.idxOf_append, if_neg h]
    simp
  have hl : (A ++ x :: B).length = A.length + (B.length + 1) := by simp
  unfold nxt
  rw [hi, hl]
  cases B with
  | nil =>
    rw [show A.length + (([] : List Nat).length + 1) = A.length + 1 from rfl, Nat.mod_self]
    cases A with
    | nil => rfl
    | cons a A => rfl
  | cons y B =>
    rw [Nat.mod_eq_of_lt (by simp), List.getD_eq_getElem?_getD, List.getElem?_append_right (by omega)]
    rw [show A.length + 1 - A.length = 1 by omega]
    rfl
theorem prv_sp {A B : List Nat} {x : Nat} (h : x ∉ A) : prv (A ++ x :: B) x = hd (A.reverse ++ (B.reverse ++ [x])) := by
  have hi : (A ++ x :: B).idxOf x = A.length := by
    rw [List.idxOf_append, if_neg h]
    simp
  have hl : (A ++ x :: B).length = A.length + (B.length + 1) := by simp
  unfold prv
  rw [hi, hl]
  rcases ends A with rfl | ⟨A', z, rfl⟩
  · rw [show ([] : List Nat).length + (([] : List Nat).length + (B.length + 1)) - 1 = B.length by simp, Nat.mod_eq_of_lt (by simp)]
    rcases ends B with rfl | ⟨B', w, rfl⟩
    · rfl
    · rw [List.reverse_append]
      simp [hd, List.getD_eq_getElem?_getD]
  · have e : (A' ++ [z]).length + ((A' ++ [z]).length + (B.length + 1)) - 1 = A'.length + ((A' ++ [z]).length + (B.length + 1)) := by
      have : (A' ++ [z]).length = A'.length + 1 := by simp
      omega
    rw [e, Nat.add_mod_right, Nat.mod_eq_of_lt (by simp; omega), List.reverse_append]
    simp [hd, List.getD_eq_getElem?_getD]
theorem split1 {l : List Nat} {x : Nat} (h : x ∈ l) (hc : l.count x ≤ 1) : ∃ A B, l = A ++ x :: B ∧ x ∉ A ∧ x ∉ B := by
  obtain ⟨A, B, e⟩ := List.append_of_mem h
  refine ⟨A, B, e, fun z => ?_, fun z => ?_⟩
  · have := List.count_pos_iff.mpr z
    rw [e, List.count_append, List.count_cons_self] at hc
    omega
  · have := List.count_pos_iff.mpr z
    rw [e, List.count_append, List.count_cons_self] at hc
    omega
theorem rmv_sp {A B : List Nat} {x : Nat} (h : x ∉ A) : rmv (A ++ x :: B) x = A ++ B := by
  rw [rmv_eq, List.erase_append_right _ h, List.erase_cons_head]
theorem insb_sp {A B : List Nat} {p d : Nat} (h : p ∉ A) : insb (A ++ p :: B) p d = A ++ p :: d :: B := by
  unfold insb
  rw [if_pos (by simp), List.idxOf_append, if_neg h]
  have : List.idxOf p (p :: B) + A.length + 1 = A.length + 1 := by simp
  rw [this]
  induction A with
  | nil => rfl
  | cons a A ih =>
    have h' : p ∉ A := fun z => h (List.mem_cons_of_mem _ z)
    show a :: (A ++ p :: B).insertIdx (A.length + 1) d = _
    rw [ih h' (by simp)]
    rfl
/-- two of a ring, in one order or the other -/
theorem split2 {l : List Nat} {x y : Nat} (hx : x ∈ l) (hy : y ∈ l) (hn : x ≠ y) (cx : l.count x ≤ 1) (cy : l.count y ≤ 1) : ∃ A B C, (l = A ++ x :: (B ++ y :: C) ∨ l = A ++ y :: (B ++ x :: C)) ∧ x ∉ A ∧ x ∉ B ∧ x ∉ C ∧ y ∉ A ∧ y ∉ B ∧ y ∉ C := by
  obtain ⟨A, B, e, h1, h2⟩ := split1 hx cx
  have hm : y ∈ A ∨ y ∈ B := by
    rw [e] at hy
    rcases List.mem_append.mp hy with z | z
    · exact Or.inl z
    · rcases List.mem_cons.mp z with z | z
      · exact absurd z.symm hn
      · exact Or.inr z
  have cxy : A.count y + B.count y ≤ 1 := by
    rw [e, List.count_append, List.count_cons, if_neg (by simpa using hn)] at cy
    omega
  rcases hm with z | z
  · have := List.count_pos_iff.mpr z
    obtain ⟨A1, A2, e2, h3, h4⟩ := split1 z (by omega)
    refine ⟨A1, A2, B, Or.inr ?_, ?_, ?_, h2, h3, h4, fun w => ?_⟩
    · rw [e, e2]; simp
    · intro w; exact h1 (by rw [e2]; exact List.mem_append_left _ w)
    · intro w; exact h1 (by rw [e2]; exact List.mem_append_right _ (List.mem_cons_of_mem _ w))
    · have := List.count_pos_iff.mpr w; omega
  · have := List.count_pos_iff.mpr z
    obtain ⟨B1, B2, e2, h3, h4⟩ := split1 z (by omega)
    refine ⟨A, B1, B2, Or.inl ?_, h1, ?_, ?_, fun w => ?_, h3, h4⟩
    · rw [e, e2]
    · intro w; exact h2 (by rw [e2]; exact List.mem_append_left _ w)
    · intro w; exact h2 (by rw [e2]; exact List.mem_append_right _ (List.mem_cons_of_mem _ w))
    · have := List.count_pos_iff.mpr w; omega
theorem hd_mem {l : List Nat} (h : l ≠ []) : hd l ∈ l := by
  cases l with
  | nil => exact absurd rfl h
  | cons a l => exact List.mem_cons_self
theorem nxt_rmv {l : List Nat} {x y : Nat} (hx : x ∈ l) (hy : y ∈ l) (hn : x ≠ y) (cx : l.count x ≤ 1) (cy : l.count y ≤ 1) : nxt (rmv l x) y = if nxt l y = x then nxt l x else nxt l y := by
  obtain ⟨A, B, C, e, h1, h2, h3, h4, h5, h6⟩ := split2 hx hy hn cx cy
  rcases e with e | e
  · rw [e, rmv_sp h1]
    have n1 : nxt (A ++ x :: (B ++ y :: C)) y = hd (C ++ ((A ++ x :: B) ++ [y])) := by
      rw [show A ++ x :: (B ++ y :: C) = (A ++ x :: B) ++ y :: C by simp]
      exact nxt_sp (by simp [h4, h5, hn.symm])
    have n2 : nxt (A ++ (B ++ y :: C)) y = hd (C ++ ((A ++ B) ++ [y])) := by
      rw [show A ++ (B ++ y :: C) = (A ++ B) ++ y :: C by simp]
      exact nxt_sp (by simp [h4, h5])
    rw [n1, n2, nxt_sp h1]
    cases C with
    | cons c C =>
      have hc : c ≠ x := fun z => h3 (by simp [z])
      rw [if_neg (show ¬ hd (c :: C ++ _) = x from hc)]
      rfl
    | nil =>
      cases A with
      | cons a A =>
        have hc : a ≠ x := fun z => h1 (by simp [z])
        rw [if_neg (show ¬ hd ([] ++ (a :: A ++ x :: B ++ [y])) = x from hc)]
        rfl
      | nil =>
        rw [if_pos (show hd ([] ++ ([] ++ x :: B ++ [y])) = x from rfl)]
        cases B with
        | nil => rfl
        | cons b B => rfl
  · rw [e]
    have r1 : rmv (A ++ y :: (B ++ x :: C)) x = A ++ y :: (B ++ C) := by
      rw [show A ++ y :: (B ++ x :: C) = (A ++ y :: B) ++ x :: C by simp, rmv_sp (by simp [h1, h2, hn])]
      simp
    have n3 : nxt (A ++ y :: (B ++ x :: C)) x = hd (C ++ ((A ++ y :: B) ++ [x])) := by
      rw [show A ++ y :: (B ++ x :: C) = (A ++ y :: B) ++ x :: C by simp]
      exact nxt_sp (by simp [h1, h2, hn])
    rw [r1, nxt_sp h4, nxt_sp h4, n3]
    cases B with
    | cons b B =>
      have hc : b ≠ x := fun z => h2 (by simp [z])
      rw [if_neg (show ¬ hd (b :: B ++ x :: C ++ (A ++ [y])) = x from hc)]
      rfl
    | nil =>
      rw [if_pos (show hd ([] ++ x :: C ++ (A ++ [y])) = x from rfl)]
      cases C with
      | cons c C => rfl
      | nil =>
        cases A with
        | nil => rfl
        | cons a A => rfl
theorem nxt_insb {l : List Nat} {p d y : Nat} (hp : p ∈ l) (hy : y ∈ l) (cp : l.count p ≤ 1) (cy : l.count y ≤ 1) (hd1 : d ≠ p) (hd2 : d ≠ y) : nxt (insb l p d) y = if y = p then d else nxt l y := by
  by_cases e : y = p
  · subst e
    obtain ⟨A, B, e, h1, h2⟩ := split1 hy cy
    rw [if_pos rfl, e, insb_sp h1, nxt_sp h1]
    rfl
  · rw [if_neg e]
    obtain ⟨A, B, C, e2, h1, h2, h3, h4, h5, h6⟩ := split2 hp hy (fun z => e z.symm) cp cy
    rcases e2 with e2 | e2
    · rw [e2, insb_sp h1]
      have n1 : nxt (A ++ p :: (B ++ y :: C)) y = hd (C ++ ((A ++ p :: B) ++ [y])) := by
        rw [show A ++ p :: (B ++ y :: C) = (A ++ p :: B) ++ y :: C by simp]
        exact nxt_sp (by simp [h4, h5, e])
      have n2 : nxt (A ++ p :: d :: (B ++ y :: C)) y = hd (C ++ ((A ++ p :: d :: B) ++ [y])) := by
        rw [show A ++ p :: d :: (B ++ y :: C) = (A ++ p :: d :: B) ++ y :: C by simp]
        exact nxt_sp (by simp [h4, h5, e, hd2.symm])
      rw [n1, n2]
      cases C with
      | cons c C => rfl
      | nil =>
        cases A with
        | cons a A => rfl
        | nil => rfl
    · rw [e2, show A ++ y :: (B ++ p :: C) = (A ++ y :: B) ++ p :: C by simp, insb_sp (by simp [h1, h2, Ne.symm e])]
      rw [show (A ++ y :: B) ++ p :: d :: C = A ++ y :: (B ++ p :: d :: C) by simp, show (A ++ y :: B) ++ p :: C = A ++ y :: (B ++ p :: C) by simp, nxt_sp h4, nxt_sp h4]
      cases B with
      | cons b B => rfl
      | nil => rfl
theorem nxt_new {l : List Nat} {p d : Nat} (hp : p ∈ l) (cp : l.count p ≤ 1) (hd0 : d ∉ l) : nxt (insb l p d) d = nxt l p ∧ prv (insb l p d) d = p := by
  obtain ⟨A, B, e, h1, h2⟩ := split1 hp cp
  rw [e] at hd0
  have a1 : d ∉ A ++ [p] := fun z => hd0 (by
    rcases List.mem_append.mp z with z | z
    · exact List.mem_append_left _ z
    · exact List.mem_append_right _ (by rw [List.mem_singleton.mp z]; exact List.mem_cons_self))
  rw [e, insb_sp h1, show A ++ p :: d :: B = (A ++ [p]) ++ d :: B by simp, nxt_sp a1, nxt_sp h1, prv_sp a1]
  refine ⟨?_, ?_⟩
  · cases B with
    | cons b B => rfl
    | nil =>
      cases A with
      | cons a A => rfl
      | nil => rfl
  · simp [hd]
/-- nobody but the one ahead of x is followed by x -/
theorem nxt_prv {l : List Nat} {x y : Nat} (hx : x ∈ l) (hy : y ∈ l) (cx : l.count x ≤ 1) (cy : l.count y ≤ 1) : nxt l y = x ↔ prv l x = y := by
  by_cases e : x = y
  · subst e
    obtain ⟨A, B, e, h1, h2⟩ := split1 hx cx
    rw [e, nxt_sp h1, prv_sp h1]
    cases B with
    | cons b B =>
      have hb : b ≠ x := fun z => h2 (by simp [z])
      rcases ends A with rfl | ⟨A', z, rfl⟩
      · rcases ends B with rfl | ⟨B', w, rfl⟩
        · simp [hd]
        · have : w ≠ x := fun z => h2 (by simp [z])
          simp [hd, this, hb]
      · have : z ≠ x := fun w => h1 (by simp [w])
        simp [hd, this, hb]
    | nil =>
      rcases ends A with rfl | ⟨A', z, rfl⟩
      · simp [hd]
      · have hz : z ≠ x := fun w => h1 (by simp [w])
        cases A' with
        | nil => simp [hd, hz]
        | cons a A' =>
          have : a ≠ x := fun w => h1 (by simp [w])
          simp [hd, hz, this]
  · obtain ⟨A, B, C, e2, h1, h2, h3, h4, h5, h6⟩ := split2 hx hy e cx cy
    rcases e2 with e2 | e2
    · have n1 : nxt l y = hd (C ++ ((A ++ x :: B) ++ [y])) := by
        rw [e2, show A ++ x :: (B ++ y :: C) = (A ++ x :: B) ++ y :: C by simp]
        exact nxt_sp (by simp [h4, h5, Ne.symm e])
      rw [n1, e2, prv_sp h1]
      cases C with
      | cons c C =>
        have hc : c ≠ x := fun w => h3 (by simp [w])
        rcases ends A with rfl | ⟨A', z, rfl⟩
        · rcases ends C with rfl | ⟨C', w, rfl⟩
          · have : c ≠ y := fun w => h6 (by simp [w])
            simp [hd, hc, this]
          · have : w ≠ y := fun z => h6 (by simp [z])
            simp [hd, hc, this]
        · have : z ≠ y := fun w => h4 (by simp [w])
          simp [hd, hc, this]
      | nil =>
        rcases ends A with rfl | ⟨A', z, rfl⟩
        · simp [hd]
        · have hz : z ≠ y := fun w => h4 (by simp [w])
          cases A' with
          | nil =>
            have : z ≠ x := fun w => h1 (by simp [w])
            simp [hd, hz, this]
          | cons a A' =>
            have : a ≠ x := fun w => h1 (by simp [w])
            simp [hd, hz, this]
    · have p1 : prv l x = hd ((A ++ y :: B).reverse ++ (C.reverse ++ [x])) := by
        rw [e2, show A ++ y :: (B ++ x :: C) = (A ++ y :: B) ++ x :: C by simp]
        exact prv_sp (by simp [h1, h2, e])
      rw [p1, e2, nxt_sp h4]
      cases B with
      | nil => simp [hd]
      | cons b B =>
        have hb : b ≠ x := fun w => h2 (by simp [w])
        rcases ends B with rfl | ⟨B', w, rfl⟩
        · have : b ≠ y := fun w => h5 (by simp [w])
          simp [hd, hb, this]
        · have : w ≠ y := fun z => h5 (by simp [z])
          simp [hd, hb, this]
end
section
/-! the same from the other side; faces; a turn keeps them -/
theorem prv_rmv {l : List Nat} {x y : Nat} (hx : x ∈ l) (hy : y ∈ l) (hn : x ≠ y) (cx : l.count x ≤ 1) (cy : l.count y ≤ 1) : prv (rmv l x) y = if prv l y = x then prv l x else prv l y := by
  obtain ⟨A, B, C, e, h1, h2, h3, h4, h5, h6⟩ := split2 hx hy hn cx cy
  rcases e with e | e
  · rw [e, rmv_sp h1]
    have n1 : prv (A ++ x :: (B ++ y :: C)) y = hd ((A ++ x :: B).reverse ++ (C.reverse ++ [y])) := by
      rw [show A ++ x :: (B ++ y :: C) = (A ++ x :: B) ++ y :: C by simp]
      exact prv_sp (by simp [h4, h5, hn.symm])
    have n2 : prv (A ++ (B ++ y :: C)) y = hd ((A ++ B).reverse ++ (C.reverse ++ [y])) := by
      rw [show A ++ (B ++ y :: C) = (A ++ B) ++ y :: C by simp]
      exact prv_sp (by simp [h4, h5])
    rw [n1, n2, prv_sp h1]
    rcases ends B with rfl | ⟨B', w, rfl⟩
    · rcases ends A with rfl | ⟨A', z, rfl⟩
      · rcases ends C with rfl | ⟨C', v, rfl⟩
        · simp [hd]
        · simp [hd]
      · simp [hd]
    · have hw : w ≠ x := fun z => h2 (by simp [z])
      simp [hd, hw]
  · rw [e]
    have r1 : rmv (A ++ y :: (B ++ x :: C)) x = A ++ y :: (B ++ C) := by
      rw [show A ++ y :: (B ++ x :: C) = (A ++ y :: B) ++ x :: C by simp, rmv_sp (by simp [h1, h2, hn])]
      simp
    have n3 : prv (A ++ y :: (B ++ x :: C)) x = hd ((A ++ y :: B).reverse ++ (C.reverse ++ [x])) := by
      rw [show A ++ y :: (B ++ x :: C) = (A ++ y :: B) ++ x :: C by simp]
      exact prv_sp (by simp [h1, h2, hn])
    rw [r1, prv_sp h4, prv_sp h4, n3]
    rcases ends A with rfl | ⟨A', z, rfl⟩
    · rcases ends C with rfl | ⟨C', v, rfl⟩
      · simp [hd]
      · have hv : v ≠ x := fun z => h3 (by simp [z])
        simp [hd, hv]
    · have hz : z ≠ x := fun w => h1 (by simp [w])
      simp [hd, hz]
theorem prv_insb {l : List Nat} {p d y : Nat} (hp : p ∈ l) (hy : y ∈ l) (cp : l.count p ≤ 1) (cy : l.count y ≤ 1) (hd2 : d ≠ y) : prv (insb l p d) y = if prv l y = p then d else prv l y := by
  by_cases e : y = p
  · subst e
    obtain ⟨A, B, e, h1, h2⟩ := split1 hy cy
    rw [e, insb_sp h1, prv_sp h1, prv_sp h1]
    rcases ends A with rfl | ⟨A', z, rfl⟩
    · rcases ends B with rfl | ⟨B', v, rfl⟩
      · simp [hd]
      · have hv : v ≠ y := fun z => h2 (by simp [z])
        simp [hd, hv]
    · have hz : z ≠ y := fun w => h1 (by simp [w])
      simp [hd, hz]
  · obtain ⟨A, B, C, e2, h1, h2, h3, h4, h5, h6⟩ := split2 hp hy (fun z => e z.symm) cp cy
    rcases e2 with e2 | e2
    · rw [e2, insb_sp h1]
      have n1 : prv (A ++ p :: (B ++ y :: C)) y = hd ((A ++ p :: B).reverse ++ (C.reverse ++ [y])) := by
        rw [show A ++ p :: (B ++ y :: C) = (A ++ p :: B) ++ y :: C by simp]
        exact prv_sp (by simp [h4, h5, e])
      have n2 : prv (A ++ p :: d :: (B ++ y :: C)) y = hd ((A ++ p :: d :: B).reverse ++ (C.reverse ++ [y])) := by
        rw [show A ++ p :: d :: (B ++ y :: C) = (A ++ p :: d :: B) ++ y :: C by simp]
        exact prv_sp (by simp [h4, h5, e, hd2.symm])
      rw [n1, n2]
      rcases ends B with rfl | ⟨B', w, rfl⟩
      · simp [hd]
      · have hw : w ≠ p := fun z => h2 (by simp [z])
        simp [hd, hw]
    · rw [e2, show A ++ y :: (B ++ p :: C) = (A ++ y :: B) ++ p :: C by simp, insb_sp (by simp [h1, h2, Ne.symm e])]
      rw [show (A ++ y :: B) ++ p :: d :: C = A ++ y :: (B ++ p :: d :: C) by simp, show (A ++ y :: B) ++ p :: C = A ++ y :: (B ++ p :: C) by simp, prv_sp h4, prv_sp h4]
      rcases ends A with rfl | ⟨A', z, rfl⟩
      · rcases ends C with rfl | ⟨C', v, rfl⟩
        · simp [hd]
        · have hv : v ≠ p := fun z => h3 (by simp [z])
          simp [hd, hv]
      · have hz : z ≠ p := fun w => h1 (by simp [w])
        simp [hd, hz]
/-- every corner is one of three (or of GLASS) -/
noncomputable def FC (r : Nat → List Nat) (al : Nat → Bool) : Prop := ∀ b, b < 16 → al b = true → ∀ x ∈ r b, x ≠ 16 → nxt (r b) x = prv (r x) b
theorem turn_FC {r : Nat → List Nat} {al : Nat → Bool} {a b : Nat} (ha : a < 16) (hb : b < 16) (hg : Gr r al) (hf : FC r al) (ala : al a = true) (alb : al b = true) (hab : b ∈ r a) (hla : 4 ≤ (r a).length) (hlb : 4 ≤ (r b).length) (hcd : prv (r a) b ≠ nxt (r a) b) (hn : if prv (r a) b = 16 then 16 ∉ r (nxt (r a) b) else nxt (r a) b ∉ r (prv (r a) b)) : FC (turnR r a b) al := by
  obtain ⟨g1, g2, g3⟩ := hg
  have ba := g1 a ha ala b hab
  have hba : b ≠ a := (ba.2 (by omega)).2.1
  have hab2 : a ∈ r b := (ba.2 (by omega)).2.2
  have hc := prv_mem hab
  have hd := nxt_mem hab
  have hcb : prv (r a) b ≠ b := prv_ne hab (g2 a ha ala b (by omega)) (by omega)
  have hdb : nxt (r a) b ≠ b := nxt_ne hab (g2 a ha ala b (by omega)) (by omega)
  have pc := g1 a ha ala _ hc
  have pd := g1 a ha ala _ hd
  have hca : prv (r a) b ≠ a := fun z => by
    by_cases e : prv (r a) b = 16
    · omega
    · exact (pc.2 e).2.1 z
  have hda : nxt (r a) b ≠ a := fun z => by
    by_cases e : nxt (r a) b = 16
    · omega
    · exact (pd.2 e).2.1 z
  -- the four corners
  have fab : prv (r b) a = nxt (r a) b := (hf a ha ala b hab (by omega)).symm
  have fba : nxt (r b) a = prv (r a) b := hf b hb alb a hab2 (by omega)
  have T : ∀ x, turnR r a b x = _ := fun x => turn_at (x := x) (fun z => hba z.symm) hca hcb hda hdb hcd
  generalize hcc : prv (r a) b = c at hc hcb pc hca hcd hn T fba
  generalize hdd : nxt (r a) b = d at hd hdb pd hda hcd hn T fab
  have cnd : d ≠ 16 → c ≠ 16 → d ∉ r c ∧ c ∉ r d := fun h1 h2 => by
    rw [if_neg h2] at hn
    refine ⟨hn, fun z => hn ?_⟩
    exact ((g1 d (by have := pd.1; omega) (pd.2 h1).1 c z).2 h2).2.2
  have cnt : ∀ u, u < 16 → al u = true → ∀ v, v ≠ 16 → (r u).count v ≤ 1 := g2
  have c16 : c ≠ 16 → c < 16 ∧ al c = true ∧ a ∈ r c ∧ b ∈ r c ∧ nxt (r c) b = a ∧ prv (r c) a = b := fun h => by
    have hc' : c < 16 := by have := pc.1; omega
    have p := pc.2 h
    have e1 : nxt (r a) c = b := (nxt_prv hab hc (cnt a ha ala b (by omega)) (cnt a ha ala c h)).mpr hcc
    have e2 : prv (r c) a = b := by rw [← hf a ha ala c hc h]; exact e1
    have e3 : b ∈ r c := by rw [← e2]; exact prv_mem p.2.2
    exact ⟨hc', p.1, p.2.2, e3, (nxt_prv p.2.2 e3 (cnt c hc' p.1 a (by omega)) (cnt c hc' p.1 b (by omega))).mpr e2, e2⟩
  have d16 : d ≠ 16 → d < 16 ∧ al d = true ∧ a ∈ r d ∧ b ∈ r d ∧ nxt (r d) a = b ∧ prv (r d) b = a := fun h => by
    have hd' : d < 16 := by have := pd.1; omega
    have p := pd.2 h
    have e1 : prv (r a) d = b := (nxt_prv hd hab (cnt a ha ala d h) (cnt a ha ala b (by omega))).mp hdd
    have e2 : nxt (r d) a = b := by rw [hf d hd' p.1 a p.2.2 (by omega)]; exact e1
    have e3 : b ∈ r d := by rw [← e2]; exact nxt_mem p.2.2
    exact ⟨hd', p.1, p.2.2, e3, e2, (nxt_prv e3 p.2.2 (cnt d hd' p.1 b (by omega)) (cnt d hd' p.1 a (by omega))).mp e2⟩
  intro u hu au v hv hv16
  have z1 := hba.symm
  have z2 := hca.symm
  have z3 := hcb.symm
  have z4 := hda.symm
  have z5 := hdb.symm
  have z6 := hcd.symm
  have eqs : ∀ {x y z : Nat}, x = y → (x = z ↔ z = y) := fun h => by rw [h]; exact eq_comm
  -- what comes next in the new rings
  have N : nxt (turnR r a b u) v = if u = c ∧ v = d then a else if u = d ∧ v = c then b else if u = a ∧ v = c then d else if u = b ∧ v = d then c else if u = c ∧ v = b then d else if u = d ∧ v = a then c else nxt (r u) v := by
    rw [T u] at hv ⊢
    by_cases h1 : u = a
    · rw [if_pos h1] at hv ⊢
      rw [rmv_mem (cnt a ha ala b (by omega))] at hv
      have q := (nxt_prv hab hv.1 (cnt a ha ala b (by omega)) (cnt a ha ala v hv16)).trans (eqs hcc)
      rw [nxt_rmv hab hv.1 (Ne.symm hv.2) (cnt a ha ala b (by omega)) (cnt a ha ala v hv16), hdd, h1]
      simp only [q]
      by_cases e : v = c
      · simp [e, z1, z2, z4]
      · simp [e, z1, z2, z4]
    · rw [if_neg h1] at hv ⊢
      by_cases h2 : u = b
      · rw [if_pos h2] at hv ⊢
        rw [rmv_mem (cnt b hb alb a (by omega))] at hv
        have q := (nxt_prv hab2 hv.1 (cnt b hb alb a (by omega)) (cnt b hb alb v hv16)).trans (eqs fab)
        rw [nxt_rmv hab2 hv.1 (Ne.symm hv.2) (cnt b hb alb a (by omega)) (cnt b hb alb v hv16), fba, h2]
        simp only [q]
        by_cases e : v = d
        · simp [e, hba, z3, z5]
        · simp [e, hba, z3, z5]
      · rw [if_neg h2] at hv ⊢
        by_cases h3 : u = c
        · have hc16 : c ≠ 16 := by omega
          obtain ⟨q1, q2, q3, q4, q5, q6⟩ := c16 hc16
          rw [if_pos ⟨h3, by omega⟩, h3] at hv ⊢
          rw [insb_mem] at hv
          by_cases e : v = d
          · rw [e, (nxt_new q4 (cnt c q1 q2 b (by omega)) (cnd (by omega) hc16).1).1, q5]
            simp
          · have hv1 : v ∈ r c := hv.resolve_left e
            rw [nxt_insb q4 hv1 (cnt c q1 q2 b (by omega)) (cnt c q1 q2 v hv16) hdb (Ne.symm e)]
            simp [e, hca, hcb, hcd]
        · rw [if_neg (fun z => h3 z.1)] at hv ⊢
          by_cases h4 : u = d
          · have hd16 : d ≠ 16 := by omega
            obtain ⟨q1, q2, q3, q4, q5, q6⟩ := d16 hd16
            rw [if_pos ⟨h4, by omega⟩, h4] at hv ⊢
            rw [insb_mem] at hv
            by_cases e : v = c
            · rw [e, (nxt_new q3 (cnt d q1 q2 a (by omega)) (cnd hd16 (by omega)).2).1, q5]
              simp [z6]
            · have hv1 : v ∈ r d := hv.resolve_left e
              rw [nxt_insb q3 hv1 (cnt d q1 q2 a (by omega)) (cnt d q1 q2 v hv16) hca (Ne.symm e)]
              simp [e, hda, hdb, z6]
          · rw [if_neg (fun z => h4 z.1)]
            simp [h1, h2, h3, h4]
  have P : ∀ u v, u < 16 → al u = true → v ≠ 16 → v ∈ turnR r a b u → prv (turnR r a b u) v = if u = c ∧ v = d then b else if u = d ∧ v = c then a else if u = a ∧ v = d then c else if u = b ∧ v = c then d else if u = c ∧ v = a then d else if u = d ∧ v = b then c else prv (r u) v := by
    intro u v hu au hv16 hv
    rw [T u] at hv ⊢
    by_cases h1 : u = a
    · rw [if_pos h1] at hv ⊢
      rw [rmv_mem (cnt a ha ala b (by omega))] at hv
      have q := ((nxt_prv hv.1 hab (cnt a ha ala v hv16) (cnt a ha ala b (by omega))).symm).trans (eqs hdd)
      rw [prv_rmv hab hv.1 (Ne.symm hv.2) (cnt a ha ala b (by omega)) (cnt a ha ala v hv16), hcc, h1]
      simp only [q]
      by_cases e : v = d
      · simp [e, z1, z2, z4]
      · simp [e, z1, z2, z4]
    · rw [if_neg h1] at hv ⊢
      by_cases h2 : u = b
      · rw [if_pos h2] at hv ⊢
        rw [rmv_mem (cnt b hb alb a (by omega))] at hv
        have q := ((nxt_prv hv.1 hab2 (cnt b hb alb v hv16) (cnt b hb alb a (by omega))).symm).trans (eqs fba)
        rw [prv_rmv hab2 hv.1 (Ne.symm hv.2) (cnt b hb alb a (by omega)) (cnt b hb alb v hv16), fab, h2]
        simp only [q]
        by_cases e : v = c
        · simp [e, hba, z3, z5]
        · simp [e, hba, z3, z5]
      · rw [if_neg h2] at hv ⊢
        by_cases h3 : u = c
        · have hc16 : c ≠ 16 := by omega
          obtain ⟨q1, q2, q3, q4, q5, q6⟩ := c16 hc16
          rw [if_pos ⟨h3, by omega⟩, h3] at hv ⊢
          rw [insb_mem] at hv
          by_cases e : v = d
          · rw [e, (nxt_new q4 (cnt c q1 q2 b (by omega)) (cnd (by omega) hc16).1).2]
            simp
          · have hv1 : v ∈ r c := hv.resolve_left e
            have q := ((nxt_prv hv1 q4 (cnt c q1 q2 v hv16) (cnt c q1 q2 b (by omega))).symm).trans (eqs q5)
            rw [prv_insb q4 hv1 (cnt c q1 q2 b (by omega)) (cnt c q1 q2 v hv16) (Ne.symm e)]
            simp [q, e, hca, hcb, hcd]
        · rw [if_neg (fun z => h3 z.1)] at hv ⊢
          by_cases h4 : u = d
          · have hd16 : d ≠ 16 := by omega
            obtain ⟨q1, q2, q3, q4, q5, q6⟩ := d16 hd16
            rw [if_pos ⟨h4, by omega⟩, h4] at hv ⊢
            rw [insb_mem] at hv
            by_cases e : v = c
            · rw [e, (nxt_new q3 (cnt d q1 q2 a (by omega)) (cnd hd16 (by omega)).2).2]
              simp [z6]
            · have hv1 : v ∈ r d := hv.resolve_left e
              have q := ((nxt_prv hv1 q3 (cnt d q1 q2 v hv16) (cnt d q1 q2 a (by omega))).symm).trans (eqs q5)
              rw [prv_insb q3 hv1 (cnt d q1 q2 a (by omega)) (cnt d q1 q2 v hv16) (Ne.symm e)]
              simp [q, e, hda, hdb, z6]
          · rw [if_neg (fun z => h4 z.1)]
            simp [h1, h2, h3, h4]
  have G : Gr (turnR r a b) al := turn_Gr ha hb ⟨g1, g2, g3⟩ ala alb hab hla hlb (by rw [hcc, hdd]; exact hcd) (by rw [hcc, hdd]; exact hn)
  have pv := (G.1 u hu au v hv).2 hv16
  have hv' : v < 16 := by have := (G.1 u hu au v hv).1; omega
  rw [N, P v u hv' pv.1 (by omega) pv.2.2]
  by_cases k1 : u = c ∧ v = d
  · obtain ⟨k1, k2⟩ := k1
    rw [k1, k2]
    simp [hcd, z6]
  · by_cases k2 : u = d ∧ v = c
    · obtain ⟨k2, k3⟩ := k2
      rw [k2, k3]
      simp [hcd, z6]
    · have old : v ∈ r u := by
        have := T u
        rw [this] at hv
        by_cases h1 : u = a
        · rw [if_pos h1, rmv_mem (cnt a ha ala b (by omega))] at hv
          rw [h1]; exact hv.1
        · rw [if_neg h1] at hv
          by_cases h2 : u = b
          · rw [if_pos h2, rmv_mem (cnt b hb alb a (by omega))] at hv
            rw [h2]; exact hv.1
          · rw [if_neg h2] at hv
            by_cases h3 : u = c ∧ u ≠ 16
            · rw [if_pos h3, insb_mem] at hv
              exact hv.resolve_left (fun z => k1 ⟨h3.1, z⟩)
            · rw [if_neg h3] at hv
              by_cases h4 : u = d ∧ u ≠ 16
              · rw [if_pos h4, insb_mem] at hv
                exact hv.resolve_left (fun z => k2 ⟨h4.1, z⟩)
              · rw [if_neg h4] at hv
                exact hv
      have e := hf u hu au v old hv16
      have k1' : ¬ (v = d ∧ u = c) := fun z => k1 ⟨z.2, z.1⟩
      have k2' : ¬ (v = c ∧ u = d) := fun z => k2 ⟨z.2, z.1⟩
      rw [if_neg k1, if_neg k2, if_neg k2', if_neg k1', e]
      by_cases a1 : u = a ∧ v = c
      · simp [a1.1, a1.2, hca, z2, hba, z1, hcb, z3, hda, z4, hdb, z5, hcd, z6]
      · by_cases a2 : u = b ∧ v = d
        · simp [a2.1, a2.2, hca, z2, hba, z1, hcb, z3, hda, z4, hdb, z5, hcd, z6]
        · by_cases a3 : u = c ∧ v = b
          · simp [a3.1, a3.2, hca, z2, hba, z1, hcb, z3, hda, z4, hdb, z5, hcd, z6]
          · by_cases a4 : u = d ∧ v = a
            · simp [a4.1, a4.2, hca, z2, hba, z1, hcb, z3, hda, z4, hdb, z5, hcd, z6]
            · have b1 : ¬ (v = a ∧ u = d) := fun z => a4 ⟨z.2, z.1⟩
              have b2 : ¬ (v = b ∧ u = c) := fun z => a3 ⟨z.2, z.1⟩
              have b3 : ¬ (v = c ∧ u = a) := fun z => a1 ⟨z.2, z.1⟩
              have b4 : ¬ (v = d ∧ u = b) := fun z => a2 ⟨z.2, z.1⟩
              rw [if_neg a1, if_neg a2, if_neg a3, if_neg a4, if_neg b1, if_neg b2, if_neg b3, if_neg b4]
end
section
/-! WHETHER it can be turned, vanish; A VANISHING -/
theorem lp_ix {S E : Type} {body : S → Option (S ⊕ E)} (I : Nat → S → Prop) (Q : E → Prop) : ∀ (k i : Nat) (s : S) (n : Nat), I i s → (∀ j s, i ≤ j → j < i + k → I j s → ∃ s', body s = some (.inl s') ∧ I (j + 1) s') → (∀ s, I (i + k) s → ∃ e, body s = some (.inr e) ∧ Q e) → k < n → ∃ e, lp body n s = some e ∧ Q e
  | 0, i, s, n, hi, _, he, hk => by
    obtain ⟨n, rfl⟩ : ∃ z, n = z + 1 := ⟨n - 1, by omega⟩
    obtain ⟨e, e1, e2⟩ := he s hi
    unfold lp
    rw [e1]
    exact ⟨e, rfl, e2⟩
  | k + 1, i, s, n, hi, hs, he, hk => by
    obtain ⟨n, rfl⟩ : ∃ z, n = z + 1 := ⟨n - 1, by omega⟩
    obtain ⟨s', e1, e2⟩ := hs i s (Nat.le_refl _) (by omega) hi
    unfold lp
    rw [e1]
    exact lp_ix I Q k (i + 1) s' n e2 (fun j s h1 h2 => hs j s (by omega) (by omega)) (fun s h => he s (by rw [show i + (k + 1) = i + 1 + k by omega]; exact h)) (by omega)
theorem e16 {z : Nat} (hz : z ≤ 16) : o32 z = 16 ↔ z = 16 := by rw [show (16 : Int32) = o32 16 from rfl, o_eq (by omega) (by omega)]
/-- a wall that can be turned -/
noncomputable def mayTurn (r : Nat → List Nat) (a b : Nat) : Prop := 4 ≤ (r a).length ∧ 4 ≤ (r b).length ∧ prv (r a) b ≠ nxt (r a) b ∧ (if prv (r a) b = 16 then 16 ∉ r (nxt (r a) b) else nxt (r a) b ∉ r (prv (r a) b))
theorem canTurn_s {m : Mem} {r : Nat → List Nat} {al : Nat → Bool} {a b : Nat} (ha : a < 16) (hb : b < 16) (hs : RS m r al) (hg : Gr r al) (ala : al a = true) (alb : al b = true) (hab : b ∈ r a) : ∃ v : Int32, fX9_canTurn (o32 a) (o32 b) m = some v ∧ ((v = 1 ∧ mayTurn r a b) ∨ (v = 0 ∧ ¬ mayTurn r a b)) := by
  have sa := (hs a ha).2 ala
  have sb := (hs b hb).2 alb
  have hc := prv_mem hab
  have hd := nxt_mem hab
  have pc := hg.1 a ha ala _ hc
  have pd := hg.1 a ha ala _ hd
  unfold fX9_canTurn mayTurn
  rw [ahead_s ha (by omega) sa hab, Option.bind_some, behind_s ha (by omega) sa hab, Option.bind_some, sd_o ha, sa.2.1, Option.bind_some]
  generalize prv (r a) b = c at *
  generalize nxt (r a) b = d at *
  have la := sa.1
  have lb := sb.1
  by_cases h1 : 4 ≤ (r a).length
  · rw [if_neg (by rw [show (4 : Int32) = o32 4 from rfl, o_lt (by omega) (by omega)]; omega), sd_o hb, sb.2.1, Option.bind_some]
    by_cases h2 : 4 ≤ (r b).length
    · rw [if_neg (by rw [show (4 : Int32) = o32 4 from rfl, o_lt (by omega) (by omega)]; omega)]
      by_cases h3 : c = d
      · rw [if_pos (by rw [h3])]
        exact ⟨0, rfl, Or.inr ⟨rfl, fun z => z.2.2.1 h3⟩⟩
      · rw [if_neg (by rw [o_eq (by omega) (by omega)]; exact h3)]
        by_cases h4 : c = 16
        · have hd' : d < 16 := by omega
          have sd := (hs d hd').2 (pd.2 (by omega)).1
          rw [if_pos ((e16 pc.1).mpr h4), h4, isWall_s hd' (by omega) sd, Option.bind_some]
          by_cases h5 : 16 ∈ r d
          · rw [if_pos h5]
            refine ⟨0, by decide, Or.inr ⟨rfl, fun z => ?_⟩⟩
            have := z.2.2.2
            rw [if_pos rfl] at this
            exact this h5
          · rw [if_neg h5]
            exact ⟨1, by decide, Or.inl ⟨rfl, h1, h2, fun z => h3 (by omega), by rw [if_pos rfl]; exact h5⟩⟩
        · have hc' : c < 16 := by omega
          have sc := (hs c hc').2 (pc.2 (by omega)).1
          rw [if_neg (fun z => h4 ((e16 pc.1).mp z)), isWall_s hc' pd.1 sc, Option.bind_some]
          by_cases h5 : d ∈ r c
          · rw [if_pos h5]
            refine ⟨0, by decide, Or.inr ⟨rfl, fun z => ?_⟩⟩
            have := z.2.2.2
            rw [if_neg h4] at this
            exact this h5
          · rw [if_neg h5]
            exact ⟨1, by decide, Or.inl ⟨rfl, h1, h2, h3, by rw [if_neg h4]; exact h5⟩⟩
    · rw [if_pos (by rw [show (4 : Int32) = o32 4 from rfl, o_lt (by omega) (by omega)]; omega)]
      exact ⟨0, rfl, Or.inr ⟨rfl, fun z => h2 z.2.1⟩⟩
  · rw [if_pos (by rw [show (4 : Int32) = o32 4 from rfl, o_lt (by omega) (by omega)]; omega)]
    exact ⟨0, rfl, Or.inr ⟨rfl, fun z => h1 z.1⟩⟩
noncomputable def okS (r : Nat → List Nat) (x : Nat) : Bool := decide (x = 16) || decide (4 ≤ (r x).length)
noncomputable def i01 (b : Bool) : Int32 := if b then 1 else 0
theorem i01_z (b : Bool) : i01 b = 0 ∨ i01 b = 1 := by cases b <;> decide
theorem i01_0 (b : Bool) : i01 b = 0 ↔ b = false := by cases b <;> decide
/-- that b vanishes -/
noncomputable def mayVan (r : Nat → List Nat) (a : Nat) : Bool := (r a).all (okS r)
theorem canVanish_s {m : Mem} {r : Nat → List Nat} {al : Nat → Bool} {a : Nat} (ha : a < 16) (hs : RS m r al) (hg : Gr r al) (ala : al a = true) : fX9_canVanish (o32 a) m = some (i01 (mayVan r a)) := by
  have sa := (hs a ha).2 ala
  obtain ⟨h1, h2, h3, h4⟩ := sa
  unfold fX9_canVanish
  have st : ((1 : Int32), (0 : Int32)) = (fun i => (i01 (((r a).take i).all (okS r)), o32 i)) 0 := rfl
  rw [st]
  refine lp_fwd (body := lX9_canVanish_4 (o32 a) m) (r a).length (fun i => (i01 (((r a).take i).all (okS r)), o32 i)) fu (fun i hi => ?_) ?_ (lt_fu (by omega))
  · unfold lX9_canVanish_4
    dsimp only
    rw [sd_o ha, h2, Option.bind_some, if_neg (by rw [o_le (by omega) (by omega)]; omega), rg_o ha (by omega), h4 i hi, Option.bind_some, o_s, tk1 hi, List.all_append]
    have px := hg.1 a ha ala _ (List.getElem_mem hi)
    generalize (r a)[i] = x at px
    cases hb : ((r a).take i).all (okS r) with
    | false => rw [if_pos (by decide)]; rfl
    | true =>
      rw [if_neg (by decide)]
      by_cases e : x = 16
      · rw [if_pos ((e16 px.1).mpr e), e]
        rfl
      · have hx : x < 16 := by omega
        have sx := (hs x hx).2 (px.2 e).1
        have lx := sx.1
        rw [if_neg (fun z => e ((e16 px.1).mp z)), sd_o hx, sx.2.1, Option.bind_some]
        by_cases e2 : 4 ≤ (r x).length
        · rw [if_neg (by rw [show (3 : Int32) = o32 3 from rfl, o_le (by omega) (by omega)]; omega)]
          simp [okS, e2, i01]
        · rw [if_pos (by rw [show (3 : Int32) = o32 3 from rfl, o_le (by omega) (by omega)]; omega)]
          simp [okS, e2, e, i01]
  · unfold lX9_canVanish_4
    dsimp only
    rw [sd_o ha, h2, Option.bind_some, if_pos (by rw [o_le (by omega) (by omega)]; omega), if_pos (i01_z _), List.take_length]
    rfl
/-- the rings when a is out of those in s -/
noncomputable def outR (r : Nat → List Nat) (a : Nat) (s : List Nat) : Nat → List Nat := fun x => if x ∈ s ∧ x ≠ 16 then rmv (r x) a else r x
noncomputable def offB (al : Nat → Bool) (a : Nat) : Nat → Bool := fun x => if x = a then false else al x
noncomputable def frT (m m' : Mem) : Prop := ∀ c j, ¬ (c = 138 ∧ 12 ≤ j ∧ j < 812) → m' c j = m c j
theorem frT_of {m m' : Mem} (h : frR m m') : frT m m' := fun c j hn => h c j (fun z => by obtain ⟨z1, b, z2, z3, z4⟩ := z; exact hn ⟨z1, by omega, by omega⟩)
theorem vanishes_s {m : Mem} {r : Nat → List Nat} {al : Nat → Bool} {a : Nat} (ha : a < 16) (hs : RS m r al) (hg : Gr r al) (ala : al a = true) : ∃ m', fX9_vanishes (o32 a) m = some (mput m' 138 9 (m 138 9 + 1)) ∧ RS m' (outR r a (r a)) (offB al a) ∧ frT m m' ∧ (∀ b, b < 16 → b ≠ a → ∀ f, f < 5 → m' 138 (12 + 50 * b + f) = m 138 (12 + 50 * b + f)) := by
  have sa := (hs a ha).2 ala
  have la := sa.1
  have irr : a ∉ r a := fun z => ((hg.1 a ha ala a z).2 (by omega)).2.1 rfl
  unfold fX9_vanishes
  have key := lp_ix (body := lX9_vanishes_2 (o32 a)) (fun i s => s.1 = o32 i ∧ RS s.2 (outR r a ((r a).take i)) al ∧ frR m s.2) (fun e => ∃ m', e = mput m' 138 9 (m 138 9 + 1) ∧ RS m' (outR r a (r a)) (offB al a) ∧ frT m m' ∧ (∀ b, b < 16 → b ≠ a → ∀ f, f < 5 → m' 138 (12 + 50 * b + f) = m 138 (12 + 50 * b + f))) (r a).length 0 (0, m) fu ⟨rfl, by
      intro b hb
      have e : outR r a ((r a).take 0) b = r b := by unfold outR; simp
      rw [e]
      exact hs b hb, frR_rf⟩ (fun j s _ hj hI => ?_) (fun s hI => ?_) (lt_fu (by omega))
  · obtain ⟨e, e1, m', e2, e3⟩ := key
    exact ⟨m', by rw [← e2]; exact e1, e3⟩
  · obtain ⟨i1, i2, i3⟩ := hI
    have hj : j < (r a).length := by omega
    have oa : outR r a ((r a).take j) a = r a := by
      unfold outR
      rw [if_neg (fun z => irr (List.mem_of_mem_take z.1))]
    have sj := (i2 a ha).2 ala
    rw [oa] at sj
    unfold lX9_vanishes_2
    rw [i1, sd_o ha, sj.2.1, Option.bind_some, if_neg (by rw [o_le (by omega) (by omega)]; omega), rg_o ha (by omega), sj.2.2.2 j hj, Option.bind_some, o_s]
    have px := hg.1 a ha ala _ (List.getElem_mem hj)
    have cx : (r a)[j] ≠ 16 → (r a)[j] ∉ (r a).take j := fun h z => by
      obtain ⟨k, hk, e⟩ := List.getElem_of_mem z
      have hk2 : k < j := by rw [List.length_take] at hk; omega
      rw [List.getElem_take] at e
      have := count_two (hg.2.1 a ha ala _ h) (by omega) hj e rfl
      omega
    have tk := tk1 hj
    generalize (r a)[j] = x at px cx tk
    by_cases e : x = 16
    · rw [if_pos ((e16 px.1).mpr e)]
      refine ⟨_, rfl, rfl, ?_, i3⟩
      have e2 : outR r a ((r a).take (j + 1)) = outR r a ((r a).take j) := by
        funext y
        unfold outR
        rw [tk]
        simp only [List.mem_append, List.mem_singleton, e]
        by_cases hy : y = 16
        · simp [hy]
        · simp [hy]
      rw [e2]
      exact i2
    · have hx : x < 16 := by omega
      have px2 := px.2 e
      have ox : outR r a ((r a).take j) x = r x := by
        unfold outR
        rw [if_neg (fun z => cx e z.1)]
      have sx := (i2 x hx).2 px2.1
      rw [ox] at sx
      rw [if_neg (fun z => e ((e16 px.1).mp z)), placeIn_s hx (by omega) sx, Option.bind_some]
      obtain ⟨m', e1, s1, o1⟩ := shutsP hx sx px2.2.2
      rw [e1, Option.bind_some]
      refine ⟨_, rfl, rfl, ?_, frR_tr i3 (frR_of hx o1)⟩
      have e2 : outR r a ((r a).take (j + 1)) = setR (outR r a ((r a).take j)) x (rmv (r x) a) := by
        funext y
        unfold outR setR
        rw [tk]
        simp only [List.mem_append, List.mem_singleton]
        by_cases hy : y = x
        · rw [hy, if_pos ⟨Or.inr rfl, e⟩, if_pos rfl]
        · simp [hy]
      rw [e2]
      exact RS_set hx i2 o1 s1
  · obtain ⟨i1, i2, i3⟩ := hI
    rw [Nat.zero_add] at i1 i2
    rw [List.take_length] at i2
    have oa : outR r a (r a) a = r a := by
      unfold outR
      rw [if_neg (fun z => irr z.1)]
    have sj := (i2 a ha).2 ala
    rw [oa] at sj
    unfold lX9_vanishes_2
    rw [i1, sd_o ha, sj.2.1, Option.bind_some, if_pos (by rw [o_le (by omega) (by omega)]; omega), show fX9_tells (o32 a) 0 0 s.2 = _ from tl_o (f := 0) ha (by omega), Option.bind_some]
    have e9 : mput s.2 138 (12 + 50 * a + 0) 0 138 9 = m 138 9 := by
      rw [mput_get, if_neg (by omega)]
      exact i3 138 9 (fun z => by obtain ⟨_, b, _, h, _⟩ := z; omega)
    refine ⟨_, rfl, mput s.2 138 (12 + 50 * a + 0) 0, by rw [e9], fun b hb => ⟨?_, fun hab => ?_⟩, ?_, ?_⟩
    · rw [mput_get]
      by_cases e : b = a
      · rw [if_pos (by omega)]
        unfold offB
        rw [if_pos e]
        rfl
      · rw [if_neg (by omega), (i2 b hb).1]
        unfold offB
        rw [if_neg e]
    · have hba : b ≠ a := fun z => by unfold offB at hab; rw [if_pos z] at hab; cases hab
      have hab : al b = true := by unfold offB at hab; rw [if_neg hba] at hab; exact hab
      obtain ⟨q1, q2, q3, q4⟩ := (i2 b hb).2 hab
      refine ⟨q1, ?_, q3, fun k hk => ?_⟩
      · rw [mput_get, if_neg (by omega)]; exact q2
      · rw [mput_get, if_neg (by omega)]; exact q4 k hk
    · intro c j hn
      rw [mput_get, if_neg (by omega)]
      exact frT_of i3 c j hn
    · intro b hb hba f hf
      rw [mput_get, if_neg (by omega)]
      exact i3 138 _ (fun z => by obtain ⟨_, b', hb', h1, h2⟩ := z; omega)
end
section
/-! A VANISHING keeps the graph and the faces -/
theorem sum_le {f g : Nat → Nat} : ∀ (n : Nat), (∀ x, x < n → f x ≤ g x) → ((List.range n).map f).sum ≤ ((List.range n).map g).sum
  | 0, _ => Nat.le_refl _
  | n + 1, h => by
    rw [List.range_succ, List.map_append, List.map_append, List.sum_append, List.sum_append]
    have := sum_le (f := f) (g := g) n (fun x hx => h x (by omega))
    have h1 := h n (by omega)
    show _ + [f n].sum ≤ _ + [g n].sum
    simp only [List.sum_cons, List.sum_nil]
    omega
theorem outR_mem {r : Nat → List Nat} {al : Nat → Bool} {a b y : Nat} (ha : a < 16) (hg : Gr r al) (hb : b < 16) (alb : al b = true) : y ∈ outR r a (r a) b ↔ y ∈ r b ∧ y ≠ a := by
  unfold outR
  by_cases h : b ∈ r a ∧ b ≠ 16
  · rw [if_pos h, rmv_mem (hg.2.1 b hb alb a (by omega))]
  · rw [if_neg h]
    refine ⟨fun z => ⟨z, fun e => h ⟨?_, by omega⟩⟩, fun z => z.1⟩
    rw [e] at z
    exact ((hg.1 b hb alb a z).2 (by omega)).2.2
theorem van_Gr {r : Nat → List Nat} {al : Nat → Bool} {a : Nat} (ha : a < 16) (hg : Gr r al) : Gr (outR r a (r a)) (offB al a) := by
  have al1 : ∀ b, offB al a b = true → al b = true ∧ b ≠ a := fun b h => by
    unfold offB at h
    by_cases e : b = a
    · rw [if_pos e] at h; cases h
    · rw [if_neg e] at h; exact ⟨h, e⟩
  refine ⟨fun b hb hab x hx => ?_, fun b hb hab x hx => ?_, ?_⟩
  · obtain ⟨h1, h2⟩ := al1 b hab
    have hm := (outR_mem ha hg hb h1).mp hx
    have p := hg.1 b hb h1 x hm.1
    refine ⟨p.1, fun h16 => ?_⟩
    have p2 := p.2 h16
    refine ⟨?_, p2.2.1, (outR_mem ha hg (by omega) p2.1).mpr ⟨p2.2.2, h2⟩⟩
    unfold offB
    rw [if_neg hm.2]
    exact p2.1
  · obtain ⟨h1, h2⟩ := al1 b hab
    have := hg.2.1 b hb h1 x hx
    unfold outR
    split
    · rw [rmv_count]; omega
    · exact this
  · refine Nat.le_trans ?_ hg.2.2
    refine sum_le 16 (fun x hx => ?_)
    unfold offB outR
    by_cases e : x = a
    · rw [if_pos e]; exact Nat.zero_le _
    · rw [if_neg e]
      by_cases h : al x = true
      · rw [if_pos h, if_pos h]
        split
        · have : (rmv (r x) a).length ≤ (r x).length := by
            unfold rmv
            rw [List.length_eraseIdx]
            split <;> omega
          have := rmv_count (r x) a 16
          unfold wt
          omega
        · exact Nat.le_refl _
      · rw [if_neg h]; exact Nat.zero_le _
theorem three {l : List Nat} {b : Nat} (hl : l.length = 3) (hb : b ∈ l) (cb : l.count b ≤ 1) (cx : l.count (nxt l b) ≤ 1) : nxt l (nxt l b) = prv l b := by
  match l, hl with
  | [p, q, s], _ =>
    have np : nxt [p, q, s] p = q := nxt_sp (A := []) (B := [q, s]) (by simp)
    have pp : prv [p, q, s] p = s := prv_sp (A := []) (B := [q, s]) (by simp)
    have nq : p ≠ q → nxt [p, q, s] q = s := fun h => nxt_sp (A := [p]) (B := [s]) (by simp [h.symm])
    have pq : p ≠ q → prv [p, q, s] q = p := fun h => prv_sp (A := [p]) (B := [s]) (by simp [h.symm])
    have ns : p ≠ s → q ≠ s → nxt [p, q, s] s = p := fun h h2 => nxt_sp (A := [p, q]) (B := []) (by simp [h.symm, h2.symm])
    have ps : p ≠ s → q ≠ s → prv [p, q, s] s = q := fun h h2 => prv_sp (A := [p, q]) (B := []) (by simp [h.symm, h2.symm])
    simp only [List.mem_cons, List.not_mem_nil, or_false] at hb
    by_cases e1 : p = b
    · subst e1
      rw [np] at cx ⊢
      have e2 : p ≠ q := fun z => by subst z; simp at cb
      rw [nq e2, pp]
    · by_cases e2 : q = b
      · subst e2
        rw [nq e1] at cx ⊢
        have e3 : q ≠ s := fun z => by subst z; simp [List.count_cons] at cb; omega
        have e4 : p ≠ s := fun z => by subst z; simp [List.count_cons] at cx
        rw [ns e4 e3, pq e1]
      · have e3 : s = b := by
          rcases hb with h | h | h
          · exact absurd h.symm e1
          · exact absurd h.symm e2
          · exact h.symm
        subst e3
        rw [ns e1 e2, np, ps e1 e2]
theorem van_FC {r : Nat → List Nat} {al : Nat → Bool} {a : Nat} (ha : a < 16) (ala : al a = true) (hg : Gr r al) (hf : FC r al) (h3 : (r a).length = 3) : FC (outR r a (r a)) (offB al a) := by
  intro b hb hab x hx hx16
  have alb : al b = true ∧ b ≠ a := by
    unfold offB at hab
    by_cases e : b = a
    · rw [if_pos e] at hab; cases hab
    · rw [if_neg e] at hab; exact ⟨hab, e⟩
  have cnt := hg.2.1
  obtain ⟨m1, m2⟩ := (outR_mem ha hg hb alb.1).mp hx
  have p := (hg.1 b hb alb.1 x m1).2 hx16
  have hx' : x < 16 := by have := (hg.1 b hb alb.1 x m1).1; omega
  have N : nxt (outR r a (r a) b) x = if nxt (r b) x = a then nxt (r b) a else nxt (r b) x := by
    unfold outR
    by_cases h : b ∈ r a ∧ b ≠ 16
    · have hab2 : a ∈ r b := ((hg.1 a ha ala b h.1).2 h.2).2.2
      rw [if_pos h, nxt_rmv hab2 m1 (Ne.symm m2) (cnt b hb alb.1 a (by omega)) (cnt b hb alb.1 x hx16)]
    · have hna : a ∉ r b := fun z => h ⟨((hg.1 b hb alb.1 a z).2 (by omega)).2.2, by omega⟩
      rw [if_neg h, if_neg (fun z => hna (by rw [← z]; exact nxt_mem m1))]
  have P : prv (outR r a (r a) x) b = if prv (r x) b = a then prv (r x) a else prv (r x) b := by
    unfold outR
    by_cases h : x ∈ r a ∧ x ≠ 16
    · have hab2 : a ∈ r x := ((hg.1 a ha ala x h.1).2 h.2).2.2
      rw [if_pos h, prv_rmv hab2 p.2.2 (Ne.symm alb.2) (cnt x hx' p.1 a (by omega)) (cnt x hx' p.1 b (by omega))]
    · have hna : a ∉ r x := fun z => h ⟨((hg.1 x hx' p.1 a z).2 (by omega)).2.2, hx16⟩
      rw [if_neg h, if_neg (fun z => hna (by rw [← z]; exact prv_mem p.2.2))]
  have e := hf b hb alb.1 x m1 hx16
  rw [N, P, ← e]
  by_cases t : nxt (r b) x = a
  · rw [if_pos t, if_pos t]
    have hab2 : a ∈ r b := by rw [← t]; exact nxt_mem m1
    have hba : b ∈ r a := ((hg.1 b hb alb.1 a hab2).2 (by omega)).2.2
    have hax : a ∈ r x := by rw [e] at t; rw [← t]; exact prv_mem p.2.2
    have hxa : x ∈ r a := ((hg.1 x hx' p.1 a hax).2 (by omega)).2.2
    have q1 : prv (r b) a = x := (nxt_prv hab2 m1 (cnt b hb alb.1 a (by omega)) (cnt b hb alb.1 x hx16)).mp t
    have q2 : nxt (r a) b = x := by rw [hf a ha ala b hba (by omega)]; exact q1
    rw [hf b hb alb.1 a hab2 (by omega), ← hf a ha ala x hxa hx16, ← q2]
    exact (three h3 hba (cnt a ha ala b (by omega)) (by rw [q2]; exact cnt a ha ala x hx16)).symm
  · rw [if_neg t, if_neg t]
/-- that a wall bursts -/
noncomputable def okB (r : Nat → List Nat) (b c d x : Nat) : Bool := decide (x = c) || decide (x = d) || !decide (x ∈ r b)
noncomputable def mayBur (r : Nat → List Nat) (a b : Nat) : Bool := (!decide (prv (r a) b = nxt (r a) b) && (okS r (prv (r a) b) && okS r (nxt (r a) b))) && (r a).all (okB r b (prv (r a) b) (nxt (r a) b))
theorem canBurst_lp {m : Mem} {r : Nat → List Nat} {al : Nat → Bool} {a b c d : Nat} (ha : a < 16) (hb : b < 16) (hs : RS m r al) (ala : al a = true) (alb : al b = true) (hc : c ≤ 16) (hd : d ≤ 16) (v0 : Bool) : lp (lX9_canBurst_63 (o32 a) (o32 b) (o32 c) (o32 d) m) fu (i01 v0, 0) = some (i01 (v0 && (r a).all (okB r b c d))) := by
  have sa := (hs a ha).2 ala
  have sb := (hs b hb).2 alb
  obtain ⟨h1, h2, h3, h4⟩ := sa
  have st : (i01 v0, (0 : Int32)) = (fun i => (i01 (v0 && ((r a).take i).all (okB r b c d)), o32 i)) 0 := by
    show _ = (i01 (v0 && true), o32 0)
    rw [Bool.and_true]
    rfl
  rw [st]
  refine lp_fwd (body := lX9_canBurst_63 (o32 a) (o32 b) (o32 c) (o32 d) m) (r a).length (fun i => (i01 (v0 && ((r a).take i).all (okB r b c d)), o32 i)) fu (fun i hi => ?_) ?_ (lt_fu (by omega))
  · unfold lX9_canBurst_63
    dsimp only
    rw [sd_o ha, h2, Option.bind_some, if_neg (by rw [o_le (by omega) (by omega)]; omega), rg_o ha (by omega), h4 i hi, Option.bind_some, o_s, tk1 hi, List.all_append]
    have px := h3 _ (List.getElem_mem hi)
    generalize (r a)[i] = x at px
    have e1 : [x].all (okB r b c d) = okB r b c d x := by simp
    rw [e1, ← Bool.and_assoc]
    cases hv : (v0 && ((r a).take i).all (okB r b c d)) with
    | false => rw [if_pos (by decide)]; rfl
    | true =>
      rw [if_neg (by decide)]
      by_cases q1 : x = c
      · rw [if_pos (by rw [q1])]
        simp [okB, q1, i01]
      · rw [if_neg (by rw [o_eq (by omega) (by omega)]; exact q1)]
        by_cases q2 : x = d
        · rw [if_pos (by rw [q2])]
          simp [okB, q2, i01]
        · rw [if_neg (by rw [o_eq (by omega) (by omega)]; exact q2), isWall_s hb px sb, Option.bind_some]
          by_cases q3 : x ∈ r b
          · rw [if_pos q3, if_neg (by decide)]
            simp [okB, q1, q2, q3, i01]
          · rw [if_neg q3, if_pos rfl]
            simp [okB, q3, i01]
  · unfold lX9_canBurst_63
    dsimp only
    rw [sd_o ha, h2, Option.bind_some, if_pos (by rw [o_le (by omega) (by omega)]; omega), if_pos (i01_z _), List.take_length]
theorem canBurst_s {m : Mem} {r : Nat → List Nat} {al : Nat → Bool} {a b : Nat} (ha : a < 16) (hb : b < 16) (hs : RS m r al) (hg : Gr r al) (ala : al a = true) (alb : al b = true) (hab : b ∈ r a) : fX9_canBurst (o32 a) (o32 b) m = some (i01 (mayBur r a b)) := by
  have sa := (hs a ha).2 ala
  have pc := hg.1 a ha ala _ (prv_mem hab)
  have pd := hg.1 a ha ala _ (nxt_mem hab)
  unfold fX9_canBurst mayBur bX9_canBurst_36
  rw [ahead_s ha (by omega) sa hab, Option.bind_some, behind_s ha (by omega) sa hab, Option.bind_some]
  generalize prv (r a) b = c at *
  generalize nxt (r a) b = d at *
  have L := fun v0 => canBurst_lp (m := m) (r := r) (al := al) (c := c) (d := d) ha hb hs ala alb pc.1 pd.1 v0
  have L0 : lp (lX9_canBurst_63 (o32 a) (o32 b) (o32 c) (o32 d) m) fu (0, 0) = some (i01 false) := L false
  have L1 : lp (lX9_canBurst_63 (o32 a) (o32 b) (o32 c) (o32 d) m) fu (1, 0) = some (i01 ((r a).all (okB r b c d))) := by
    have := L true
    rw [Bool.true_and] at this
    exact this
  have D : ∀ z, (z ≤ 16 ∧ (z ≠ 16 → al z = true ∧ z ≠ a ∧ a ∈ r z)) → z ≠ 16 → fX9_sidesOf (o32 z) m = some (o32 (r z).length) ∧ (r z).length ≤ 44 := fun z p h => by
    have hz : z < 16 := by have := p.1; omega
    have sz := (hs z hz).2 (p.2 h).1
    exact ⟨by rw [sd_o hz, sz.2.1], sz.1⟩
  rw [L0, L1]
  by_cases q1 : c = d
  · rw [if_pos (by rw [q1])]
    simp [q1]
  · rw [if_neg (by rw [o_eq (by have := pc.1; omega) (by have := pd.1; omega)]; exact q1)]
    have B : (if o32 d = 16 then some (i01 ((r a).all (okB r b c d))) else (fX9_sidesOf (o32 d) m).bind fun q7 => if q7 ≤ 3 then some (i01 false) else some (i01 ((r a).all (okB r b c d)))) = some (i01 (okS r d && (r a).all (okB r b c d))) := by
      by_cases q2 : d = 16
      · rw [if_pos ((e16 pd.1).mpr q2)]
        simp [okS, q2]
      · obtain ⟨s1, s2⟩ := D d pd q2
        rw [if_neg (fun z => q2 ((e16 pd.1).mp z)), s1, Option.bind_some]
        by_cases q3 : 4 ≤ (r d).length
        · rw [if_neg (by rw [show (3 : Int32) = o32 3 from rfl, o_le (by omega) (by omega)]; omega)]
          simp [okS, q3]
        · rw [if_pos (by rw [show (3 : Int32) = o32 3 from rfl, o_le (by omega) (by omega)]; omega)]
          simp [okS, q3, q2]
    rw [B]
    by_cases q2 : c = 16
    · rw [if_pos ((e16 pc.1).mpr q2)]
      have : okS r c = true := by simp [okS, q2]
      rw [this]
      simp [q1]
    · obtain ⟨s1, s2⟩ := D c pc q2
      rw [if_neg (fun z => q2 ((e16 pc.1).mp z)), s1, Option.bind_some]
      by_cases q3 : 4 ≤ (r c).length
      · rw [if_neg (by rw [show (3 : Int32) = o32 3 from rfl, o_le (by omega) (by omega)]; omega)]
        have : okS r c = true := by simp [okS, q3]
        rw [this]
        simp [q1]
      · rw [if_pos (by rw [show (3 : Int32) = o32 3 from rfl, o_le (by omega) (by omega)]; omega)]
        have : okS r c = false := by simp [okS, q3, q2]
        rw [this]
        simp
end

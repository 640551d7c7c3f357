/-! NUMBERS, LOOPS, THE MODEL'S RINGS -/
abbrev o32 (n : Nat) : Int32 := Int32.ofNat n
theorem o_add (a b : Nat) : o32 a + o32 b = o32 (a + b) := (Int32.ofNat_add a b).symm
theorem o_mul (a b : Nat) : o32 a * o32 b = o32 (a * b) := (Int32.ofNat_mul a b).symm
theorem o_ti {n : Nat} (h : n < 2147483648) : (o32 n).toInt = n := Int32.toInt_ofNat_of_lt h
theorem o_tn {n : Nat} (h : n < 2147483648) : (o32 n).toNatClampNeg = n := by
  show (o32 n).toInt.toNat = n
  rw [o_ti h]
  rfl
theorem o_lt {a b : Nat} (ha : a < 2147483648) (hb : b < 2147483648) : o32 a < o32 b ↔ a < b := by
  rw [Int32.lt_iff_toInt_lt, o_ti ha, o_ti hb]
  omega
theorem o_le {a b : Nat} (ha : a < 2147483648) (hb : b < 2147483648) : o32 a ≤ o32 b ↔ a ≤ b := by
  rw [Int32.le_iff_toInt_le, o_ti ha, o_ti hb]
  omega
theorem o_eq {a b : Nat} (ha : a < 2147483648) (hb : b < 2147483648) : o32 a = o32 b ↔ a = b := by
  constructor
  · intro h
    have := congrArg Int32.toInt h
    rw [o_ti ha, o_ti hb] at this
    omega
  · intro h; rw [h]
theorem o_sub {a b : Nat} (h : b ≤ a) (ha : a < 2147483648) : o32 a - o32 b = o32 (a - b) := by
  apply Int32.toInt_inj.mp
  rw [Int32.toInt_sub, o_ti ha, o_ti (by omega), o_ti (by omega)]
  have e : ((a : Int) - (b : Int)) = ((a - b : Nat) : Int) := by omega
  rw [e]
  exact Int.bmod_eq_of_le (by omega) (by omega)
theorem o_inb {j n : Nat} (hj : j < n) (hn : j < 2147483648) : inb (o32 j) n := by
  refine ⟨?_, by rw [o_tn hn]; exact hj⟩
  rw [Int32.le_iff_toInt_le, o_ti hn]
  show (0 : Int) ≤ j
  omega
theorem o_neg1 {n : Nat} (h : n < 2147483648) : ¬ o32 n = -1 := by
  intro z
  have := congrArg Int32.toInt z
  rw [o_ti h] at this
  have e : (-1 : Int32).toInt = -1 := by decide
  omega
theorem o_ge0 {n : Nat} (h : n < 2147483648) : (0 : Int32) ≤ o32 n := by
  rw [Int32.le_iff_toInt_le, o_ti h]
  show (0 : Int) ≤ n
  omega
theorem o_s (i : Nat) : o32 i + (1 : Int32) = o32 (i + 1) := o_add i 1
theorem lp_fwd {S E : Type} {body : S → Option (S ⊕ E)} {e : E} : ∀ (k : Nat) (st : Nat → S) (n : Nat), (∀ i, i < k → body (st i) = some (.inl (st (i + 1)))) → body (st k) = some (.inr e) → k < n → lp body n (st 0) = some e
  | 0, st, n, _, he, hk => by
    obtain ⟨n, rfl⟩ : ∃ z, n = z + 1 := ⟨n - 1, by omega⟩
    unfold lp
    rw [he]
  | k + 1, st, n, hs, he, hk => by
    obtain ⟨n, rfl⟩ : ∃ z, n = z + 1 := ⟨n - 1, by omega⟩
    unfold lp
    rw [hs 0 (by omega)]
    exact lp_fwd k (fun i => st (i + 1)) n (fun i hi => hs (i + 1) (by omega)) he (by omega)
/-- a loop with an invariant and a measure -/
theorem lp_inv {S E : Type} {body : S → Option (S ⊕ E)} (I : S → Prop) (μ : S → Nat) (Q : E → Prop) (hs : ∀ s, I s → (∃ s', body s = some (.inl s') ∧ I s' ∧ μ s' < μ s) ∨ (∃ e, body s = some (.inr e) ∧ Q e)) : ∀ (n : Nat) (s : S), I s → μ s < n → ∃ e, lp body n s = some e ∧ Q e
  | 0, _, _, h => absurd h (by omega)
  | n + 1, s, hi, hm => by
    unfold lp
    rcases hs s hi with ⟨s', e1, e2, e3⟩ | ⟨e, e1, e2⟩
    · rw [e1]
      exact lp_inv I μ Q hs n s' e2 (by omega)
    · rw [e1]
      exact ⟨e, rfl, e2⟩
theorem lt_fu {n : Nat} (h : n < 4294967296) : n < fu := Nat.lt_of_lt_of_le h fu_ge
theorem ad_o (b f : Nat) : ((12 : Int32) + ((50 : Int32) * o32 b)) + o32 f = o32 (12 + 50 * b + f) := by
  show (o32 12 + o32 50 * o32 b) + o32 f = _
  rw [o_mul, o_add, o_add]
theorem of_o {b f : Nat} {m : Mem} (hb : b < 16) (hf : f < 50) : fX9_of (o32 b) (o32 f) m = some (m 138 (12 + 50 * b + f)) := by
  unfold fX9_of
  rw [ad_o, if_pos (o_inb (by omega) (by omega)), o_tn (by omega)]
theorem tl_o {b f : Nat} {v : Int32} {m : Mem} (hb : b < 16) (hf : f < 50) : fX9_tells (o32 b) (o32 f) v m = some (mput m 138 (12 + 50 * b + f) v) := by
  unfold fX9_tells
  rw [ad_o, if_pos (o_inb (by omega) (by omega)), o_tn (by omega)]
theorem sd_o {b : Nat} {m : Mem} (hb : b < 16) : fX9_sidesOf (o32 b) m = some (m 138 (12 + 50 * b + 5)) := by
  unfold fX9_sidesOf
  rw [show fX9_of (o32 b) 5 m = _ from of_o (f := 5) hb (by omega)]
  rfl
theorem rg_o {b i : Nat} {m : Mem} (hb : b < 16) (hi : i < 44) : fX9_of (o32 b) ((6 : Int32) + o32 i) m = some (m 138 (12 + 50 * b + (6 + i))) := by
  rw [show (6 : Int32) + o32 i = o32 (6 + i) from o_add 6 i]
  exact of_o hb (by omega)
theorem tr_o {b i : Nat} {v : Int32} {m : Mem} (hb : b < 16) (hi : i < 44) : fX9_tells (o32 b) ((6 : Int32) + o32 i) v m = some (mput m 138 (12 + 50 * b + (6 + i)) v) := by
  rw [show (6 : Int32) + o32 i = o32 (6 + i) from o_add 6 i]
  exact tl_o hb (by omega)
/-- the ring of b in the model's memory -/
noncomputable def rgAt (m : Mem) (b : Nat) (l : List Nat) : Prop := l.length ≤ 44 ∧ m 138 (12 + 50 * b + 5) = o32 l.length ∧ (∀ x ∈ l, x ≤ 16) ∧ ∀ i, (h : i < l.length) → m 138 (12 + 50 * b + (6 + i)) = o32 l[i]
noncomputable def plc (l : List Nat) (x : Nat) : Int32 := if x ∈ l then o32 (l.idxOf x) else -1
theorem plc_snoc {l : List Nat} {x y : Nat} : plc (l ++ [y]) x = if x ∈ l then plc l x else if y = x then o32 l.length else -1 := by
  unfold plc
  by_cases h : x ∈ l
  · rw [if_pos (List.mem_append_left _ h), if_pos h, if_pos h, List.idxOf_append, if_pos h]
  · rw [if_neg h]
    by_cases e : y = x
    · subst e
      rw [if_pos (List.mem_append_right _ List.mem_cons_self), if_pos rfl, List.idxOf_append, if_neg h]
      simp
    · rw [if_neg e, if_neg]
      intro z
      rcases List.mem_append.mp z with z | z
      · exact h z
      · exact e (List.mem_singleton.mp z).symm
theorem tk1 {l : List Nat} {i : Nat} (h : i < l.length) : l.take (i + 1) = l.take i ++ [l[i]] := List.take_succ_eq_append_getElem h
theorem placeIn_s {m : Mem} {b x : Nat} {l : List Nat} (hb : b < 16) (hx : x ≤ 16) (h : rgAt m b l) : fX9_placeIn (o32 b) (o32 x) m = some (plc l x) := by
  obtain ⟨h1, h2, h3, h4⟩ := h
  unfold fX9_placeIn
  refine lp_fwd (body := lX9_placeIn_5 (o32 b) (o32 x) m) l.length (fun i => (plc (l.take i) x, o32 i)) fu (fun i hi => ?_) ?_ (lt_fu (by omega))
  · unfold lX9_placeIn_5
    rw [sd_o hb, h2]
    show (if o32 l.length ≤ o32 i then _ else _) = _
    rw [if_neg (by rw [o_le (by omega) (by omega)]; omega), tk1 hi, plc_snoc]
    have hl : (l.take i).length = i := by rw [List.length_take]; omega
    by_cases hm : x ∈ l.take i
    · have e : (0 : Int32) ≤ plc (l.take i) x := by
        unfold plc
        rw [if_pos hm]
        have := List.idxOf_lt_length_of_mem hm
        exact o_ge0 (by omega)
      rw [if_pos e, if_pos hm, ← o_s]
    · have e : ¬ (0 : Int32) ≤ plc (l.take i) x := by
        unfold plc
        rw [if_neg hm]
        decide
      rw [if_neg e, if_neg hm, rg_o hb (by omega), h4 i hi]
      have hli := h3 _ (List.getElem_mem hi)
      show (if o32 l[i] = o32 x then _ else _) = _
      by_cases e2 : l[i] = x
      · rw [if_pos (by rw [e2]), if_pos e2, hl, ← o_s]
      · rw [if_neg (by rw [o_eq (by omega) (by omega)]; exact e2), if_neg e2, ← o_s]
        unfold plc
        rw [if_neg hm]
  · unfold lX9_placeIn_5
    rw [sd_o hb, h2]
    show (if o32 l.length ≤ o32 l.length then _ else _) = _
    rw [if_pos (by rw [o_le (by omega) (by omega)]; omega), List.take_length]
theorem isWall_s {m : Mem} {b x : Nat} {l : List Nat} (hb : b < 16) (hx : x ≤ 16) (h : rgAt m b l) : fX9_isWall (o32 b) (o32 x) m = some (if x ∈ l then 1 else 0) := by
  unfold fX9_isWall
  rw [placeIn_s hb hx h]
  show (if plc l x < 0 then some 0 else some 1) = _
  unfold plc
  by_cases hm : x ∈ l
  · have := List.idxOf_lt_length_of_mem hm
    have hl := h.1
    rw [if_pos hm, if_pos hm, if_neg]
    rw [show (0 : Int32) = o32 0 from rfl, o_lt (by omega) (by omega)]
    omega
  · rw [if_neg hm, if_neg hm, if_pos (by decide)]

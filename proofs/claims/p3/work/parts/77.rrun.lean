/-! BOTH: LIQUID OF ONE BUBBLE -/
theorem i_add {a b : Int32} (h1 : -2147483648 ≤ a.toInt + b.toInt) (h2 : a.toInt + b.toInt < 2147483648) : (a + b).toInt = a.toInt + b.toInt := by
  rw [Int32.toInt_add]
  exact Int.bmod_eq_of_le (by omega) (by omega)
theorem i_sub {a b : Int32} (h1 : -2147483648 ≤ a.toInt - b.toInt) (h2 : a.toInt - b.toInt < 2147483648) : (a - b).toInt = a.toInt - b.toInt := by
  rw [Int32.toInt_sub]
  exact Int.bmod_eq_of_le (by omega) (by omega)
theorem i_eq {a : Int32} {n : Nat} (h : a.toInt = n) (hn : n < 2147483648) : a = o32 n := by
  apply Int32.toInt_inj.mp
  rw [h, o_ti hn]
theorem o_div {a b : Nat} (ha : a < 2147483648) (hb : b < 2147483648) (h0 : 0 < b) : o32 a / o32 b = o32 (a / b) := by
  apply Int32.toInt_inj.mp
  have hd := Nat.div_le_self a b
  rw [Int32.toInt_div_of_ne_right _ _ (fun z => by
    have := congrArg Int32.toInt z
    rw [o_ti hb] at this
    have e : (-1 : Int32).toInt = -1 := by decide
    omega), o_ti ha, o_ti hb, o_ti (by omega)]
  exact (Int.ofNat_tdiv a b).symm
theorem lp_up {S E : Type} {body : S → Option (S ⊕ E)} {e : E} : ∀ (n n' : Nat) (s : S), lp body n s = some e → n ≤ n' → lp body n' s = some e
  | 0, _, _, h, _ => by cases h
  | n + 1, n', s, h, hn => by
    obtain ⟨n', rfl⟩ : ∃ z, n' = z + 1 := ⟨n' - 1, by omega⟩
    unfold lp at h ⊢
    cases hb : body s with
    | none => rw [hb] at h; cases h
    | some t =>
      rw [hb] at h
      cases t with
      | inl s' => exact lp_up n n' s' h (by omega)
      | inr e' => exact h
def underB (kd tp : Nat) : Bool := decide (tp = kd) || decide (tp = 0) || (decide (kd = 2) && decide (tp = 1)) || (decide (kd = 5) && decide (tp = 3))
theorem und_tab : ∀ kd, kd < 7 → ∀ tp, tp < 7 → lp (lX1_isUnder_4 (o32 tp) (fun _ _ => 0)) 10 (o32 kd, 0) = some (i01 (underB kd tp)) := by decide +kernel
theorem under_c {m : Mem} {kd tp : Nat} (h1 : kd < 7) (h2 : tp < 7) : fX1_isUnder (o32 kd) (o32 tp) m = some (i01 (underB kd tp)) := by
  have e : fX1_isUnder (o32 kd) (o32 tp) m = lp (lX1_isUnder_4 (o32 tp) (fun _ _ => 0)) fu (o32 kd, 0) := rfl
  rw [e]
  exact lp_up _ _ _ (und_tab kd h1 tp h2) (Nat.le_of_lt (lt_fu (by omega)))
/-- those lower than b in its RING -/
def lowB (f : Nat → Nat → Nat) (b x : Nat) : Bool := !decide (x = 16) && decide (f b 4 < f x 4)
def lowL (r : Nat → List Nat) (f : Nat → Nat → Nat) (b : Nat) : List Nat := (r b).filter (lowB f b)
theorem low_mem {r : Nat → List Nat} {f : Nat → Nat → Nat} {b x : Nat} : x ∈ lowL r f b ↔ x ∈ r b ∧ x ≠ 16 ∧ f b 4 < f x 4 := by
  unfold lowL lowB
  rw [List.mem_filter, Bool.and_eq_true, Bool.not_eq_true', decide_eq_false_iff_not, decide_eq_true_eq]
theorem low_16 {r : Nat → List Nat} {al : Nat → Bool} {f : Nat → Nat → Nat} {b : Nat} (hg : Gr r al) (hb : b < 16) (alb : al b = true) : (∀ x ∈ lowL r f b, x < 16 ∧ al x = true ∧ x ≠ b) ∧ (∀ x, (lowL r f b).count x ≤ 1) := by
  refine ⟨fun x hx => ?_, fun x => ?_⟩
  · have h := low_mem.mp hx
    have p := hg.1 b hb alb x h.1
    have p2 := p.2 h.2.1
    exact ⟨by omega, p2.1, p2.2.1⟩
  · by_cases e : x = 16
    · have : (lowL r f b).count x = 0 := List.count_eq_zero.mpr (fun z => (low_mem.mp z).2.1 e)
      omega
    · exact Nat.le_trans (List.Sublist.count_le _ List.filter_sublist) (hg.2.1 b hb alb x e)
theorem bitsBelow_c {k : Nat} {m : Mem} {w : Nat → Int32} {r : Nat → List Nat} {al : Nat → Bool} {f : Nat → Nat → Nat} {b : Nat} (h : CS k m r al) (hF : FR k m w al f) (hg : Gr r al) (hb : b < 16) (alb : al b = true) : ∃ n, n < 65536 ∧ fX7_bitsBelow k (o32 b) m = some (o32 n) ∧ ∀ x, x < 16 → n.testBit x = decide (x ∈ lowL r f b) := by
  obtain ⟨n0, a1, a2, a3⟩ := bitsBeside_c h hg hb alb
  have rb : m (cw k 6) (o32 b).toNatClampNeg = o32 (f b 4) := by rw [o_tn (by omega)]; exact (hF b hb alb 4 (by omega) (by omega)).2.1
  have lb : f b 4 ≤ 3 := (hF b hb alb 4 (by omega) (by omega)).2.2
  unfold fX7_bitsBelow
  rw [a2, Option.bind_some]
  have key := lp_ix (body := lX7_bitsBelow_11 k (o32 b) m) (fun i s => s.2 = o32 i ∧ ∃ n, n < 65536 ∧ s.1 = o32 n ∧ ∀ x, x < 16 → n.testBit x = if x < i then decide (x ∈ lowL r f b) else decide (x ∈ r b)) (fun e => ∃ n, n < 65536 ∧ e = o32 n ∧ ∀ x, x < 16 → n.testBit x = decide (x ∈ lowL r f b)) 16 0 (o32 n0, (0 : Int32)) fu ⟨rfl, n0, a1, rfl, fun x hx => by rw [if_neg (by omega)]; exact a3 x hx⟩ (fun i s _ hi hI => ?_) (fun s hI => ?_) (lt_fu (by omega))
  · obtain ⟨e, e1, n, e2, e3, e4⟩ := key
    exact ⟨n, e2, by rw [e1, e3], e4⟩
  · obtain ⟨i1, n, i2, i3, i4⟩ := hI
    have hi : i < 16 := by omega
    unfold lX7_bitsBelow_11
    rw [i1, i3, if_neg (not_16 hi), if_pos (o_inb hi (by omega)), if_pos (o_inb hb (by omega)), rb]
    by_cases c : o32 (f b 4) < m (cw k 6) (o32 i).toNatClampNeg
    · rw [if_pos c, o_s]
      refine ⟨_, rfl, rfl, n, i2, rfl, fun x hx => ?_⟩
      rw [i4 x hx]
      by_cases e : x = i
      · rw [if_neg (by omega), if_pos (by omega), e]
        by_cases hm : i ∈ r b
        · have p := CS_m (k := k) (m := m) hg hb alb hm
          have p2 := p.2 (by omega)
          have ri := (hF i hi p2.2.1 4 (by omega) (by omega))
          rw [o_tn (by omega), show m (cw k 6) i = _ from ri.2.1, o_lt (by omega) (by have : f i 4 ≤ 3 := ri.2.2; omega)] at c
          rw [decide_eq_true hm, decide_eq_true (low_mem.mpr ⟨hm, by omega, c⟩)]
        · rw [decide_eq_false hm, decide_eq_false (fun z => hm (low_mem.mp z).1)]
      · by_cases e2 : x < i
        · rw [if_pos e2, if_pos (by omega)]
        · rw [if_neg e2, if_neg (by omega)]
    · rw [if_neg c, shl_tab i (by omega), show (-1 : Int32) = o32 4294967295 by decide, o_xor, o_and, o_s]
      refine ⟨_, rfl, rfl, _, Nat.lt_of_le_of_lt Nat.and_le_left i2, rfl, fun x hx => ?_⟩
      rw [clr_bit (by omega), i4 x hx]
      by_cases e : x = i
      · rw [decide_eq_true e, Bool.not_true, Bool.and_false, if_pos (by omega), decide_eq_false]
        intro z
        have z := low_mem.mp z
        rw [e] at z
        have p := CS_m (k := k) (m := m) hg hb alb z.1
        have p2 := p.2 z.2.1
        have ri := (hF i hi p2.2.1 4 (by omega) (by omega))
        exact c (by rw [o_tn (by omega), show m (cw k 6) i = _ from ri.2.1, o_lt (by omega) (by have : f i 4 ≤ 3 := ri.2.2; omega)]; exact z.2.2)
      · rw [decide_eq_false e, Bool.not_false, Bool.and_true]
        by_cases e2 : x < i
        · rw [if_pos e2, if_pos (by omega)]
        · rw [if_neg e2, if_neg (by omega)]
  · obtain ⟨i1, n, i2, i3, i4⟩ := hI
    unfold lX7_bitsBelow_11
    rw [i1, i3, if_pos (by decide)]
    exact ⟨_, rfl, n, i2, rfl, fun x hx => by rw [i4 x hx, if_pos (by omega)]⟩
theorem drain_v {d v : Nat} (hd : d ≤ 1999999999) (hv : v < 2147483648) : ((fJ9_min_f86c9 (1999999999 : Int64) ((o32 d).toInt64 + (o32 v).toInt64)).toInt32) = o32 (min 1999999999 (d + v)) := by
  have e1 : ((o32 d).toInt64 + (o32 v).toInt64).toInt = (d : Int) + v := by
    rw [Int64.toInt_add, Int32.toInt_toInt64, Int32.toInt_toInt64, o_ti (by omega), o_ti hv]
    exact Int.bmod_eq_of_le (by omega) (by omega)
  have e2 : (1999999999 : Int64).toInt = 1999999999 := by decide
  generalize (o32 d).toInt64 + (o32 v).toInt64 = s at *
  apply i_eq ?_ (by omega)
  unfold fJ9_min_f86c9
  by_cases h : s < 1999999999
  · rw [if_pos ((lg_cmp_gt _ _).mpr h), Int64.toInt_toInt32, e1]
    rw [Int64.lt_iff_toInt_lt] at h
    rw [Int.bmod_eq_of_le (by omega) (by omega)]
    omega
  · rw [if_neg (fun z => h ((lg_cmp_gt _ _).mp z)), Int64.toInt_toInt32, e2]
    rw [Int64.lt_iff_toInt_lt] at h
    rw [Int.bmod_eq_of_le (by omega) (by omega)]
    omega
/-- the class's own notes of what moves (cell 39) and the model's new levels (cell 147), by what came and what went -/
def WN (k : Nat) (m mr : Mem) (al : Nat → Bool) (f : Nat → Nat → Nat) (I O : Nat → Nat) (i : Nat) : Prop := ∀ x, x < 16 → (m (cw k 39) x).toInt = (I x : Int) - O x ∧ O x ≤ 99999 ∧ I x ≤ 100000 * i ∧ (al x = true → mr 147 x = o32 (f x 3 + I x - O x) ∧ O x ≤ f x 3 ∧ (i ≤ x → O x = 0))
theorem giveL_c {k : Nat} {m : Mem} {b n e c : Nat} {L : List Nat} {V : Nat → Int} (hb : b < 16) (hbL : b ∉ L) (hn : n < 65536) (hbit : ∀ x, x < 16 → n.testBit x = decide (x ∈ L)) (hc : c ≤ 16) (he : e ≤ 99999) (hV : ∀ x, x < 16 → (m (cw k 39) x).toInt = V x ∧ -100000000 ≤ V x ∧ V x ≤ 100000000) : ∃ m', lp (lX7_giveWater_59 k (o32 b) (o32 n) (o32 c) (o32 e)) fu (0, m) = some m' ∧ (∀ x, x < 16 → (m' (cw k 39) x).toInt = (if x = b then V b - (e * c : Nat) else if x ∈ L then V x + e else V x)) ∧ ∀ z j, z ≠ cw k 39 → m' z j = m z j := by
  have hec : e * c ≤ 99999 * 16 := Nat.mul_le_mul he hc
  refine lp_ix (body := lX7_giveWater_59 k (o32 b) (o32 n) (o32 c) (o32 e)) (fun i s => s.1 = o32 i ∧ (∀ x, x < 16 → (s.2 (cw k 39) x).toInt = if x < i ∧ x ∈ L then V x + e else V x) ∧ ∀ z j, z ≠ cw k 39 → s.2 z j = m z j) (fun m' => (∀ x, x < 16 → (m' (cw k 39) x).toInt = (if x = b then V b - (e * c : Nat) else if x ∈ L then V x + e else V x)) ∧ ∀ z j, z ≠ cw k 39 → m' z j = m z j) 16 0 ((0 : Int32), m) fu ⟨rfl, fun x hx => by rw [if_neg (by omega)]; exact (hV x hx).1, fun _ _ _ => rfl⟩ (fun i s _ hi hI => ?_) (fun s hI => ?_) (lt_fu (by omega))
  · obtain ⟨i1, i2, i3⟩ := hI
    have hi : i < 16 := by omega
    unfold lX7_giveWater_59
    rw [i1, if_neg (not_16 hi), bit1 (by omega) (by omega), hbit i hi]
    by_cases hm : i ∈ L
    · rw [decide_eq_true hm, if_pos rfl, if_pos rfl, if_pos (o_inb hi (by omega)), if_pos (o_inb hi (by omega)), o_tn (by omega), o_s]
      have vi := i2 i hi
      rw [if_neg (by omega)] at vi
      have bi := hV i hi
      refine ⟨_, rfl, rfl, fun x hx => ?_, fun z j hz => ?_⟩
      · dsimp only
        rw [mput_get]
        by_cases ex : x = i
        · rw [if_pos ⟨rfl, ex⟩, ex, if_pos ⟨by omega, hm⟩, i_add (by rw [vi, o_ti (by omega)]; omega) (by rw [vi, o_ti (by omega)]; omega), vi, o_ti (by omega)]
        · rw [if_neg (fun z => ex z.2), i2 x hx]
          by_cases e2 : x < i ∧ x ∈ L
          · rw [if_pos e2, if_pos ⟨by omega, e2.2⟩]
          · rw [if_neg e2, if_neg (fun z => e2 ⟨by omega, z.2⟩)]
      · dsimp only
        rw [mput_c _ _ _ hz]
        exact i3 z j hz
    · rw [decide_eq_false hm, if_neg (by decide), o_s]
      refine ⟨_, rfl, rfl, fun x hx => ?_, i3⟩
      dsimp only
      rw [i2 x hx]
      by_cases e2 : x < i ∧ x ∈ L
      · rw [if_pos e2, if_pos ⟨by omega, e2.2⟩]
      · rw [if_neg e2, if_neg (fun z => e2 ⟨by
          have : x ≠ i := fun q => hm (q ▸ z.2)
          omega, z.2⟩)]
  · obtain ⟨i1, i2, i3⟩ := hI
    unfold lX7_giveWater_59
    rw [i1, if_pos (by decide), if_pos (o_inb hb (by omega)), if_pos (o_inb hb (by omega)), o_tn (by omega), o_mul]
    have vb := i2 b hb
    rw [if_neg (fun z => hbL z.2)] at vb
    have bb := hV b hb
    refine ⟨_, rfl, fun x hx => ?_, fun z j hz => ?_⟩
    · rw [mput_get]
      by_cases ex : x = b
      · rw [if_pos ⟨rfl, ex⟩, if_pos ex, i_sub (by rw [vb, o_ti (by omega)]; omega) (by rw [vb, o_ti (by omega)]; omega), vb, o_ti (by omega)]
      · rw [if_neg (fun z => ex z.2), if_neg ex, i2 x hx]
        by_cases hm : x ∈ L
        · rw [if_pos ⟨by omega, hm⟩, if_pos hm]
        · rw [if_neg (fun z => hm z.2), if_neg hm]
    · rw [mput_c _ _ _ hz]
      exact i3 z j hz

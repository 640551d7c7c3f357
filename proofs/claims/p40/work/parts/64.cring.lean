section
/-! BITS; THE CLASS'S RINGS, READ -/
theorem o_and (a b : Nat) : o32 a &&& o32 b = o32 (a &&& b) := Int32.toBitVec.inj (show BitVec.ofNat 32 a &&& BitVec.ofNat 32 b = BitVec.ofNat 32 (a &&& b) from BitVec.ofNat_and.symm)
theorem o_or (a b : Nat) : o32 a ||| o32 b = o32 (a ||| b) := Int32.toBitVec.inj (show BitVec.ofNat 32 a ||| BitVec.ofNat 32 b = BitVec.ofNat 32 (a ||| b) from BitVec.ofNat_or.symm)
theorem o_xor (a b : Nat) : o32 a ^^^ o32 b = o32 (a ^^^ b) := Int32.toBitVec.inj (show BitVec.ofNat 32 a ^^^ BitVec.ofNat 32 b = BitVec.ofNat 32 (a ^^^ b) from BitVec.ofNat_xor.symm)
theorem sh_tab : ∀ b, b < 32 → ((o32 b).toUInt32 &&& Int32.toUInt32 31).toBitVec % 32 = BitVec.ofNat 32 b := by decide +kernel
theorem o_ushr {a b : Nat} (ha : a < 4294967296) (hb : b < 32) : jUshr (o32 a) (o32 b) = o32 (a >>> b) := by
  apply Int32.toBitVec.inj
  show ((o32 a).toUInt32 >>> ((o32 b).toUInt32 &&& Int32.toUInt32 31)).toBitVec = BitVec.ofNat 32 (a >>> b)
  rw [UInt32.toBitVec_shiftRight]
  have e : ((o32 b).toUInt32 &&& Int32.toUInt32 31).toBitVec % (32 : BitVec 32) = BitVec.ofNat 32 b := sh_tab b hb
  rw [e]
  apply BitVec.eq_of_toNat_eq
  show (BitVec.ofNat 32 a >>> BitVec.ofNat 32 b).toNat = _
  rw [BitVec.ushiftRight_eq', BitVec.toNat_ushiftRight, BitVec.toNat_ofNat, BitVec.toNat_ofNat, BitVec.toNat_ofNat, Nat.mod_eq_of_lt ha, Nat.mod_eq_of_lt (show b < 2 ^ 32 by omega), Nat.mod_eq_of_lt]
  rw [Nat.shiftRight_eq_div_pow]
  exact Nat.lt_of_le_of_lt (Nat.div_le_self _ _) ha
theorem shl_tab : ∀ b, b < 31 → jShl 1 (o32 b) = o32 (2 ^ b) := by decide +kernel
theorem bit1 {n b : Nat} (hn : n < 4294967296) (hb : b < 32) : (jUshr (o32 n) (o32 b)) &&& 1 = if n.testBit b then 1 else 0 := by
  rw [o_ushr hn hb, show (1 : Int32) = o32 1 from rfl, o_and, Nat.and_one_is_mod, Nat.testBit_eq_decide_div_mod_eq, Nat.shiftRight_eq_div_pow]
  rcases Nat.mod_two_eq_zero_or_one (n / 2 ^ b) with h | h <;> rw [h] <;> rfl
theorem not_lt0 {n : Nat} (h : n < 2147483648) : ¬ o32 n < 0 := by
  rw [show (0 : Int32) = o32 0 from rfl, o_lt h (by omega)]
  omega
theorem not_16 {n : Nat} (h : n < 16) : ¬ (16 : Int32) ≤ o32 n := by
  rw [show (16 : Int32) = o32 16 from rfl, o_le (by omega) (by omega)]
  omega
noncomputable def cg (k : Nat) (m : Mem) (b : Nat) (l : List Nat) : Prop := l.length ≤ 30 ∧ m (cw k 7) b = o32 l.length ∧ (∀ x ∈ l, x ≤ 16) ∧ ∀ i, (h : i < l.length) → m (cw k (9 + b)) i = o32 l[i]
/-- the class's BUBBLES and RINGS -/
noncomputable def CS (k : Nat) (m : Mem) (r : Nat → List Nat) (al : Nat → Bool) : Prop := (∃ n, n < 65536 ∧ m (cw k 2) 0 = o32 n ∧ ∀ b, b < 16 → n.testBit b = al b) ∧ ∀ b, b < 16 → cg k m b (if al b then r b else [])
theorem CS_g {k : Nat} {m : Mem} {r : Nat → List Nat} {al : Nat → Bool} {b : Nat} (h : CS k m r al) (hb : b < 16) (ha : al b = true) : cg k m b (r b) := by
  have := h.2 b hb
  rw [if_pos ha] at this
  exact this
theorem has_c {k : Nat} {m : Mem} {r : Nat → List Nat} {al : Nat → Bool} {b : Nat} (h : CS k m r al) (hb : b < 16) : fX0_has k (o32 b) m = i01 (al b) := by
  obtain ⟨⟨n, h1, h2, h3⟩, _⟩ := h
  unfold fX0_has
  rw [if_neg (not_lt0 (by omega)), if_neg (not_16 hb), h2, bit1 (by omega) (by omega), h3 b hb]
  cases al b <;> decide
theorem has_any {k : Nat} {m : Mem} {r : Nat → List Nat} {al : Nat → Bool} (h : CS k m r al) (x : Int32) : fX0_has k x m = 0 ∨ ∃ n, n < 16 ∧ x = o32 n ∧ al n = true ∧ fX0_has k x m = 1 := by
  by_cases hx : x < 0
  · left; unfold fX0_has; rw [if_pos hx]
  · by_cases hy : (16 : Int32) ≤ x
    · left; unfold fX0_has; rw [if_neg hx, if_pos hy]
    · have e : ∃ n, n < 16 ∧ x = o32 n := by
        refine ⟨x.toInt.toNat, ?_, ?_⟩
        · rw [Int32.lt_iff_toInt_lt] at hx
          rw [Int32.le_iff_toInt_le] at hy
          have e1 : (16 : Int32).toInt = 16 := by decide
          have e0 : (0 : Int32).toInt = 0 := by decide
          omega
        · apply Int32.toInt_inj.mp
          rw [Int32.lt_iff_toInt_lt] at hx
          rw [Int32.le_iff_toInt_le] at hy
          have e1 : (16 : Int32).toInt = 16 := by decide
          have e0 : (0 : Int32).toInt = 0 := by decide
          rw [o_ti (by omega)]
          omega
      obtain ⟨n, hn, rfl⟩ := e
      rw [has_c h hn]
      cases hal : al n with
      | false => left; rfl
      | true => right; exact ⟨n, hn, rfl, hal, rfl⟩
theorem has_16 {k : Nat} {m : Mem} : fX0_has k 16 m = 0 := rfl
theorem sidesOf_c {k : Nat} {m : Mem} {b : Nat} {l : List Nat} (hb : b < 16) (h : cg k m b l) : fX0_sidesOf k (o32 b) m = some (o32 l.length) := by
  unfold fX0_sidesOf
  rw [if_neg (not_lt0 (by omega)), if_neg (not_16 hb), if_pos (o_inb hb (by omega)), o_tn (by omega), h.2.1]
theorem sidesOf_16 {k : Nat} {m : Mem} : fX0_sidesOf k 16 m = some 0 := rfl
theorem fm_tab : ∀ n, n < 31 → 0 < n → fJ9_floorMod_7cf53 (-1) (o32 n) = some (o32 (n - 1)) ∧ ∀ x, x < 62 → fJ9_floorMod_7cf53 (o32 x) (o32 n) = some (o32 (x % n)) := by decide +kernel
theorem getD_g {l : List Nat} {i : Nat} (h : i < l.length) : l.getD i 0 = l[i] := by
  rw [List.getD_eq_getElem?_getD, List.getElem?_eq_getElem h]
  rfl
theorem at_c {k : Nat} {m : Mem} {b z : Nat} {l : List Nat} (hb : b < 16) (h : cg k m b l) (hl : 0 < l.length) (hz : z < 62) : fX0_at k (o32 b) (o32 z) m = some (o32 (l.getD (z % l.length) 0)) := by
  obtain ⟨h1, h2, h3, h4⟩ := h
  have hm : z % l.length < l.length := Nat.mod_lt _ hl
  unfold fX0_at
  have e7 : m (cw k 7) (o32 b).toNatClampNeg = o32 l.length := by rw [o_tn (by omega)]; exact h2
  rw [if_neg (not_lt0 (by omega)), if_neg (not_16 hb), if_pos (o_inb hb (by omega)), e7]
  rw [if_neg (by rw [show (0 : Int32) = o32 0 from rfl, o_le (by omega) (by omega)]; omega), if_pos (o_inb hb (by omega)), if_pos (by rw [show (30 : Int32) = o32 30 from rfl, o_le (by omega) (by omega)]; omega), if_pos (o_inb hb (by omega)), if_pos (o_inb hb (by omega)), (fm_tab _ (by omega) hl).2 z hz, Option.bind_some, if_pos (o_inb (by omega) (by omega)), o_tn (by omega), o_tn (by omega), h4 _ hm, getD_g hm]
theorem at_cm {k : Nat} {m : Mem} {b : Nat} {l : List Nat} (hb : b < 16) (h : cg k m b l) (hl : 0 < l.length) : fX0_at k (o32 b) (-1) m = some (o32 (l.getD (l.length - 1) 0)) := by
  obtain ⟨h1, h2, h3, h4⟩ := h
  have hm : l.length - 1 < l.length := by omega
  unfold fX0_at
  have e7 : m (cw k 7) (o32 b).toNatClampNeg = o32 l.length := by rw [o_tn (by omega)]; exact h2
  rw [if_neg (not_lt0 (by omega)), if_neg (not_16 hb), if_pos (o_inb hb (by omega)), e7]
  rw [if_neg (by rw [show (0 : Int32) = o32 0 from rfl, o_le (by omega) (by omega)]; omega), if_pos (o_inb hb (by omega)), if_pos (by rw [show (30 : Int32) = o32 30 from rfl, o_le (by omega) (by omega)]; omega), if_pos (o_inb hb (by omega)), if_pos (o_inb hb (by omega)), (fm_tab _ (by omega) hl).1, Option.bind_some, if_pos (o_inb (by omega) (by omega)), o_tn (by omega), o_tn (by omega), h4 _ hm, getD_g hm]
theorem at_ci {k : Nat} {m : Mem} {b z : Nat} {l : List Nat} (hb : b < 16) (h : cg k m b l) (hz : z < l.length) : fX0_at k (o32 b) (o32 z) m = some (o32 l[z]) := by
  have h1 := h.1
  rw [at_c hb h (by omega) (by omega), Nat.mod_eq_of_lt hz, getD_g hz]
theorem plc_hit {l : List Nat} {i x : Nat} (hi : i < l.length) (hx : l[i] = x) (hn : x ∉ l.take i) : plc l x = o32 i := by
  have hm : x ∈ l := hx ▸ List.getElem_mem hi
  rw [plc_in hm]
  congr 1
  have e : l = l.take i ++ l[i] :: l.drop (i + 1) := by rw [← List.drop_eq_getElem_cons hi, List.take_append_drop]
  have e2 : l.idxOf x = (l.take i ++ l[i] :: l.drop (i + 1)).idxOf x := by rw [← e]
  rw [e2, List.idxOf_append, if_neg hn, hx, List.idxOf_cons_self, List.length_take]
  omega
theorem placeOf_c {k : Nat} {m : Mem} {b x : Nat} {l : List Nat} (hb : b < 16) (hx : x ≤ 16) (h : cg k m b l) : fX0_placeOf k (o32 b) (o32 x) m = some (plc l x) := by
  obtain ⟨h1, h2, h3, h4⟩ := h
  unfold fX0_placeOf
  rw [if_neg (not_lt0 (by omega)), if_pos (by rw [show (16 : Int32) = o32 16 from rfl, o_lt (by omega) (by omega)]; omega)]
  obtain ⟨e, he, q⟩ := lp_inv (body := lX0_placeOf_14 k (o32 b) (o32 x) m) (fun s => ∃ i, i ≤ l.length ∧ s = o32 i ∧ x ∉ l.take i) (fun s => 100 - s.toNatClampNeg) (fun e => e = plc l x) (fun s hs => by
    obtain ⟨i, hi, rfl, hn⟩ := hs
    unfold lX0_placeOf_14
    have e7 : m (cw k 7) (o32 b).toNatClampNeg = o32 l.length := by rw [o_tn (by omega)]; exact h2
    rw [if_pos (o_inb hb (by omega)), e7]
    by_cases hil : i = l.length
    · right
      subst hil
      refine ⟨-1, by rw [if_pos (by rw [o_le (by omega) (by omega)]; omega)], ?_⟩
      rw [List.take_length] at hn
      unfold plc
      rw [if_neg hn]
    · have hi2 : i < l.length := by omega
      rw [if_neg (by rw [o_le (by omega) (by omega)]; omega), if_neg (by rw [show (30 : Int32) = o32 30 from rfl, o_le (by omega) (by omega)]; omega), if_pos (o_inb hb (by omega)), if_pos (o_inb (by omega) (by omega)), o_tn (show b < 2147483648 by omega), o_tn (show i < 2147483648 by omega), h4 i hi2]
      have hli := h3 _ (List.getElem_mem hi2)
      by_cases e2 : l[i] = x
      · right
        exact ⟨o32 i, by rw [if_pos (by rw [e2])], (plc_hit hi2 e2 hn).symm⟩
      · left
        refine ⟨o32 (i + 1), by rw [if_neg (by rw [o_eq (by omega) (by omega)]; exact e2), o_s], ⟨i + 1, by omega, rfl, ?_⟩, ?_⟩
        · rw [tk1 hi2]
          intro z
          rcases List.mem_append.mp z with z | z
          · exact hn z
          · exact e2 (List.mem_singleton.mp z).symm
        · rw [o_tn (show i + 1 < 2147483648 by omega)]
          omega) fu 0 ⟨0, by omega, rfl, by simp⟩ (lt_fu (by show 100 - _ < _; omega))
  rw [he, q]
theorem placeOf_16 {k : Nat} {m : Mem} {x : Int32} : fX0_placeOf k 16 x m = some (-1) := rfl
theorem plc_neg {l : List Nat} {x : Nat} (hl : l.length < 1000) : plc l x < 0 ↔ x ∉ l := by
  unfold plc
  by_cases h : x ∈ l
  · have := List.idxOf_lt_length_of_mem h
    rw [if_pos h]
    exact ⟨fun z => absurd z (not_lt0 (by omega)), fun z => absurd h z⟩
  · rw [if_neg h]
    exact ⟨fun _ => h, fun _ => by decide⟩
theorem isWall_c {k : Nat} {m : Mem} {r : Nat → List Nat} {al : Nat → Bool} {a b : Nat} (h : CS k m r al) (ha : a < 16) (hb : b < 16) : fX0_isWall k (o32 a) (o32 b) m = some (i01 (al a && (al b && decide (b ∈ r a)))) := by
  unfold fX0_isWall
  rw [has_c h ha, has_c h hb]
  cases hal : al a with
  | false => rfl
  | true =>
    cases hbl : al b with
    | false => rfl
    | true =>
      have g := CS_g h ha hal
      rw [placeOf_c ha (by omega) g]
      show (if plc (r a) b < 0 then some 0 else some 1) = _
      by_cases hm : b ∈ r a
      · rw [if_neg (fun z => (plc_neg (by have := g.1; omega)).mp z hm), decide_eq_true hm]
        rfl
      · rw [if_pos ((plc_neg (by have := g.1; omega)).mpr hm), decide_eq_false hm]
        rfl
theorem isWall_16 {k : Nat} {m : Mem} {x : Int32} : fX0_isWall k x 16 m = some 0 := by
  unfold fX0_isWall
  rw [has_16, if_pos rfl]
  split <;> rfl
theorem ahead_c {k : Nat} {m : Mem} {b x : Nat} {l : List Nat} (hb : b < 16) (hx : x ≤ 16) (h : cg k m b l) (hm : x ∈ l) : fX0_aheadOf k (o32 b) (o32 x) m = some (o32 (prv l x)) := by
  unfold fX0_aheadOf
  rw [placeOf_c hb hx h, plc_in hm, Option.bind_some]
  have hi := List.idxOf_lt_length_of_mem hm
  have h1 := h.1
  unfold prv
  by_cases h0 : l.idxOf x = 0
  · rw [h0, show (o32 0 - 1 : Int32) = -1 from rfl, at_cm hb h (by omega), Nat.mod_eq_of_lt (by omega), Nat.zero_add]
    rfl
  · rw [show o32 (l.idxOf x) - 1 = o32 (l.idxOf x - 1) from o_sub (b := 1) (by omega) (by omega), at_c hb h (by omega) (by omega), show l.idxOf x + l.length - 1 = (l.idxOf x - 1) + l.length by omega, Nat.add_mod_right]
    rfl
theorem behind_c {k : Nat} {m : Mem} {b x : Nat} {l : List Nat} (hb : b < 16) (hx : x ≤ 16) (h : cg k m b l) (hm : x ∈ l) : fX0_behind k (o32 b) (o32 x) m = some (o32 (nxt l x)) := by
  unfold fX0_behind
  rw [placeOf_c hb hx h, plc_in hm, Option.bind_some]
  have hi := List.idxOf_lt_length_of_mem hm
  have h1 := h.1
  unfold nxt
  rw [o_s, at_c hb h (by omega) (by omega)]
  rfl
end
section
/-! THE CLASS'S RINGS: WHAT CAN BE -/
theorem CS_m {k : Nat} {m : Mem} {r : Nat → List Nat} {al : Nat → Bool} {a x : Nat} (hg : Gr r al) (ha : a < 16) (ala : al a = true) (hx : x ∈ r a) : x ≤ 16 ∧ (x ≠ 16 → x < 16 ∧ al x = true ∧ x ≠ a ∧ a ∈ r x) := by
  have := hg.1 a ha ala x hx
  exact ⟨this.1, fun h => ⟨by omega, (this.2 h).1, (this.2 h).2.1, (this.2 h).2.2⟩⟩
theorem canLose_c {k : Nat} {m : Mem} {r : Nat → List Nat} {al : Nat → Bool} {x : Nat} (h : CS k m r al) (hx : x ≤ 16) (hal : x ≠ 16 → al x = true) : fX0_canLoseOne k (o32 x) m = some (i01 (okS r x)) := by
  unfold fX0_canLoseOne okS
  by_cases h16 : x = 16
  · subst h16
    rfl
  · have hx2 : x < 16 := by omega
    have g := CS_g h hx2 (hal h16)
    have h1 := g.1
    rw [if_neg (fun z => h16 ((e16 hx).mp z)), sidesOf_c hx2 g, decide_eq_false h16]
    show (if o32 (r x).length < o32 4 then some 0 else some 1) = _
    by_cases h4 : 4 ≤ (r x).length
    · rw [if_neg (by rw [o_lt (by omega) (by omega)]; omega), decide_eq_true h4]
      rfl
    · rw [if_pos (by rw [o_lt (by omega) (by omega)]; omega), decide_eq_false h4]
      rfl
theorem touch_c {k : Nat} {m : Mem} {r : Nat → List Nat} {al : Nat → Bool} {c d : Nat} (h : CS k m r al) (hc : c ≤ 16) (hd : d ≤ 16) (hca : c ≠ 16 → al c = true) (hda : d ≠ 16 → al d = true) (hcd : c ≠ d) : fX0_touch k (o32 c) (o32 d) m = some (i01 (if c = 16 then decide (16 ∈ r d) else decide (d ∈ r c))) := by
  unfold fX0_touch
  have key : ∀ b x, b < 16 → x ≤ 16 → al b = true → ((fX0_placeOf k (o32 b) (o32 x) m).bind fun q1 => (if q1 < 0 then some (0 : Int32) else some 1)) = some (i01 (decide (x ∈ r b))) := by
    intro b x hb hx hal
    have g := CS_g h hb hal
    rw [placeOf_c hb hx g, Option.bind_some]
    by_cases hm : x ∈ r b
    · rw [if_neg (fun z => (plc_neg (by have := g.1; omega)).mp z hm), decide_eq_true hm]
      rfl
    · rw [if_pos ((plc_neg (by have := g.1; omega)).mpr hm), decide_eq_false hm]
      rfl
  by_cases h16 : c = 16
  · rw [if_pos ((e16 hc).mpr h16), if_pos h16]
    exact key d 16 (by omega) (by omega) (hda (by omega))
  · rw [if_neg (fun z => h16 ((e16 hc).mp z)), if_neg h16]
    exact key c d (by omega) hd (hca h16)
theorem canTurn_c {k : Nat} {m : Mem} {r : Nat → List Nat} {al : Nat → Bool} {a b : Nat} (h : CS k m r al) (hg : Gr r al) (ha : a < 16) (hb : b < 16) (ala : al a = true) (alb : al b = true) (hab : b ∈ r a) : ∃ v : Int32, fX0_canTurn k (o32 a) (o32 b) m = some v ∧ ((v = 1 ∧ mayTurn r a b) ∨ (v = 0 ∧ ¬ mayTurn r a b)) := by
  have ga := CS_g h ha ala
  have gb := CS_g h hb alb
  have la := ga.1
  have lb := gb.1
  unfold fX0_canTurn
  rw [isWall_c h ha hb, ala, alb, decide_eq_true hab, Option.bind_some, if_neg (by decide), if_pos (o_inb ha (by omega)), o_tn (by omega), ga.2.1]
  by_cases h1 : 4 ≤ (r a).length
  · rw [if_neg (by rw [show (4 : Int32) = o32 4 from rfl, o_lt (by omega) (by omega)]; omega), if_pos (o_inb hb (by omega)), o_tn (by omega), gb.2.1]
    by_cases h2 : 4 ≤ (r b).length
    · rw [if_pos (by rw [show (4 : Int32) = o32 4 from rfl, o_le (by omega) (by omega)]; omega), ahead_c ha (by omega) ga hab, behind_c ha (by omega) ga hab, Option.bind_some, Option.bind_some]
      have hc := CS_m (k := k) (m := m) hg ha ala (prv_mem hab)
      have hd := CS_m (k := k) (m := m) hg ha ala (nxt_mem hab)
      by_cases hcd : prv (r a) b = nxt (r a) b
      · rw [if_pos (by rw [hcd])]
        exact ⟨0, rfl, .inr ⟨rfl, fun z => z.2.2.1 hcd⟩⟩
      · rw [if_neg (by rw [o_eq (by omega) (by omega)]; exact hcd), touch_c h hc.1 hd.1 (fun z => (hc.2 z).2.1) (fun z => (hd.2 z).2.1) hcd, Option.bind_some]
        by_cases h16 : prv (r a) b = 16
        · rw [if_pos h16]
          by_cases hm : 16 ∈ r (nxt (r a) b)
          · rw [decide_eq_true hm]
            exact ⟨0, rfl, .inr ⟨rfl, fun z => by have z := z.2.2.2; rw [if_pos h16] at z; exact z hm⟩⟩
          · rw [decide_eq_false hm]
            exact ⟨1, rfl, .inl ⟨rfl, h1, h2, hcd, by rw [if_pos h16]; exact hm⟩⟩
        · rw [if_neg h16]
          by_cases hm : nxt (r a) b ∈ r (prv (r a) b)
          · rw [decide_eq_true hm]
            exact ⟨0, rfl, .inr ⟨rfl, fun z => by have z := z.2.2.2; rw [if_neg h16] at z; exact z hm⟩⟩
          · rw [decide_eq_false hm]
            exact ⟨1, rfl, .inl ⟨rfl, h1, h2, hcd, by rw [if_neg h16]; exact hm⟩⟩
    · rw [if_neg (by rw [show (4 : Int32) = o32 4 from rfl, o_le (by omega) (by omega)]; omega)]
      exact ⟨0, rfl, .inr ⟨rfl, fun z => h2 z.2.1⟩⟩
  · rw [if_pos (by rw [show (4 : Int32) = o32 4 from rfl, o_lt (by omega) (by omega)]; omega)]
    exact ⟨0, rfl, .inr ⟨rfl, fun z => h1 z.1⟩⟩
theorem canVanish_c {k : Nat} {m : Mem} {r : Nat → List Nat} {al : Nat → Bool} {a : Nat} (h : CS k m r al) (hg : Gr r al) (ha : a < 16) (ala : al a = true) : fX0_canVanish k (o32 a) m = some (i01 (decide ((r a).length = 3) && mayVan r a)) := by
  have ga := CS_g h ha ala
  have la := ga.1
  have hx := fun x hx => CS_m (k := k) (m := m) (x := x) hg ha ala hx
  unfold fX0_canVanish mayVan
  rw [sidesOf_c ha ga, Option.bind_some]
  by_cases h3 : (r a).length = 3
  · rw [if_pos (by rw [h3]; rfl), decide_eq_true h3]
    obtain ⟨x, y, z, e⟩ : ∃ x y z, r a = [x, y, z] := by
      match r a, h3 with
      | [x, y, z], _ => exact ⟨x, y, z, rfl⟩
    rw [e] at ga hx
    have p0 : fX0_at k (o32 a) 0 m = some (o32 x) := at_ci (z := 0) ha ga (by simp)
    have p1 : fX0_at k (o32 a) 1 m = some (o32 y) := at_ci (z := 1) ha ga (by simp)
    have p2 : fX0_at k (o32 a) 2 m = some (o32 z) := at_ci (z := 2) ha ga (by simp)
    have hx0 := hx x (by simp)
    have hy0 := hx y (by simp)
    have hz0 := hx z (by simp)
    rw [p0, p1, p2, e]
    simp only [Option.bind_some, List.all_cons, List.all_nil, Bool.and_true, Bool.true_and]
    rw [canLose_c h hx0.1 (fun q => (hx0.2 q).2.1), canLose_c h hy0.1 (fun q => (hy0.2 q).2.1), canLose_c h hz0.1 (fun q => (hz0.2 q).2.1)]
    cases okS r x <;> cases okS r y <;> cases okS r z <;> rfl
  · rw [if_neg (by rw [show (3 : Int32) = o32 3 from rfl, o_eq (by omega) (by omega)]; exact h3), decide_eq_false h3]
    rfl
theorem canBurst_c {k : Nat} {m : Mem} {r : Nat → List Nat} {al : Nat → Bool} {a b : Nat} (h : CS k m r al) (hg : Gr r al) (ha : a < 16) (hb : b < 16) (ala : al a = true) (alb : al b = true) (hab : b ∈ r a) : fX0_canBurst k (o32 a) (o32 b) m = some (i01 (mayBur r a b)) := by
  have ga := CS_g h ha ala
  have gb := CS_g h hb alb
  have la := ga.1
  have lb := gb.1
  have hc := CS_m (k := k) (m := m) hg ha ala (prv_mem hab)
  have hd := CS_m (k := k) (m := m) hg ha ala (nxt_mem hab)
  unfold fX0_canBurst mayBur
  rw [isWall_c h ha hb, ala, alb, decide_eq_true hab, Option.bind_some, if_neg (by decide), ahead_c ha (by omega) ga hab, behind_c ha (by omega) ga hab, Option.bind_some, Option.bind_some]
  by_cases hcd : prv (r a) b = nxt (r a) b
  · rw [if_pos (by rw [hcd]), decide_eq_true hcd]
    rfl
  · rw [if_neg (by rw [o_eq (by omega) (by omega)]; exact hcd), decide_eq_false hcd, canLose_c h hc.1 (fun z => (hc.2 z).2.1), canLose_c h hd.1 (fun z => (hd.2 z).2.1), Option.bind_some, Option.bind_some]
    cases okS r (prv (r a) b) with
    | false => rfl
    | true =>
      cases okS r (nxt (r a) b) with
      | false => rfl
      | true =>
        rw [if_neg (by decide), if_neg (by decide), sidesOf_c ha ga, Option.bind_some]
        obtain ⟨e, he, q⟩ := lp_inv (body := lX0_canBurst_61 k (o32 a) (o32 b) (o32 (prv (r a) b)) (o32 (nxt (r a) b)) (o32 (r a).length) m) (fun s => ∃ i, i ≤ (r a).length ∧ s = o32 i ∧ ((r a).take i).all (okB r b (prv (r a) b) (nxt (r a) b)) = true) (fun s => 100 - s.toNatClampNeg) (fun e => e = i01 ((r a).all (okB r b (prv (r a) b) (nxt (r a) b)))) (fun s hs => by
          obtain ⟨i, hi, rfl, hn⟩ := hs
          unfold lX0_canBurst_61
          by_cases hil : i = (r a).length
          · right
            subst hil
            rw [List.take_length] at hn
            exact ⟨1, by rw [if_pos (by rw [o_le (by omega) (by omega)]; omega)], by rw [hn]; rfl⟩
          · have hi2 : i < (r a).length := by omega
            have hx := CS_m (k := k) (m := m) hg ha ala (List.getElem_mem hi2)
            rw [if_neg (by rw [o_le (by omega) (by omega)]; omega), at_ci ha ga hi2, Option.bind_some]
            have go : okB r b (prv (r a) b) (nxt (r a) b) (r a)[i] = true → ((r a).take (i + 1)).all (okB r b (prv (r a) b) (nxt (r a) b)) = true := fun z => by
              rw [tk1 hi2, List.all_append, hn, Bool.true_and, List.all_cons, z]
              rfl
            have mu : 100 - (o32 (i + 1)).toNatClampNeg < 100 - (o32 i).toNatClampNeg := by
              rw [o_tn (by omega), o_tn (by omega)]
              omega
            by_cases e1 : (r a)[i] = prv (r a) b
            · left
              exact ⟨o32 (i + 1), by rw [if_pos (by rw [e1]), o_s], ⟨i + 1, by omega, rfl, go (by unfold okB; rw [decide_eq_true e1]; rfl)⟩, mu⟩
            · rw [if_neg (by rw [o_eq (by omega) (by omega)]; exact e1)]
              by_cases e2 : (r a)[i] = nxt (r a) b
              · left
                exact ⟨o32 (i + 1), by rw [if_pos (by rw [e2]), o_s], ⟨i + 1, by omega, rfl, go (by unfold okB; rw [decide_eq_true e2, Bool.or_true]; rfl)⟩, mu⟩
              · rw [if_neg (by rw [o_eq (by omega) (by omega)]; exact e2), placeOf_c hb hx.1 gb, Option.bind_some]
                by_cases e3 : (r a)[i] ∈ r b
                · right
                  refine ⟨0, by rw [if_neg (fun z => (plc_neg (by omega)).mp z e3)], ?_⟩
                  have : (r a).all (okB r b (prv (r a) b) (nxt (r a) b)) = false := by
                    rw [List.all_eq_false]
                    refine ⟨_, List.getElem_mem hi2, ?_⟩
                    unfold okB
                    rw [decide_eq_false e1, decide_eq_false e2, decide_eq_true e3]
                    decide
                  rw [this]
                  rfl
                · left
                  refine ⟨o32 (i + 1), by rw [if_pos ((plc_neg (by omega)).mpr e3), o_s], ⟨i + 1, by omega, rfl, go ?_⟩, mu⟩
                  unfold okB
                  rw [decide_eq_false e3, Bool.not_false, Bool.or_true]) fu 0 ⟨0, by omega, rfl, by simp⟩ (lt_fu (by show 100 - _ < _; omega))
        rw [he, q]
        rfl
end
section
/-! THE CLASS'S RINGS: ONE OUT, ONE IN -/
theorem cw_ne {k a b : Nat} (h : a ≠ b) : cw k a ≠ cw k b := by
  unfold cw
  omega
noncomputable def offC (k : Nat) (m m' : Mem) (b : Nat) : Prop := ∀ c j, ¬ (c = cw k 7 ∧ j = b) → c ≠ cw k (9 + b) → m' c j = m c j
theorem cg_off {k : Nat} {m m' : Mem} {b b' : Nat} {l : List Nat} (h : cg k m b' l) (ho : offC k m m' b) (hn : b' ≠ b) : cg k m' b' l := by
  refine ⟨h.1, ?_, h.2.2.1, fun i hi => ?_⟩
  · rw [ho _ _ (fun z => hn z.2) (cw_ne (by omega))]
    exact h.2.1
  · rw [ho _ _ (fun z => absurd z.1 (cw_ne (by omega))) (cw_ne (by omega))]
    exact h.2.2.2 i hi
theorem CS_set {k : Nat} {m m' : Mem} {r : Nat → List Nat} {al : Nat → Bool} {b : Nat} {l : List Nat} (h : CS k m r al) (ala : al b = true) (ho : offC k m m' b) (hl : cg k m' b l) : CS k m' (setR r b l) al := by
  obtain ⟨⟨n, h1, h2, h3⟩, h4⟩ := h
  refine ⟨⟨n, h1, ?_, h3⟩, fun x hx => ?_⟩
  · rw [ho _ _ (fun z => absurd z.1 (cw_ne (by omega))) (cw_ne (by omega))]
    exact h2
  · by_cases e : x = b
    · subst e
      rw [setR_at, if_pos ala]
      exact hl
    · rw [setR_ne _ _ e]
      exact cg_off (h4 x hx) ho e
noncomputable def tkM (k : Nat) (m : Mem) (b i j : Nat) : Mem := fun c a => if c = cw k (9 + b) ∧ i ≤ a ∧ a < i + j then m c (a + 1) else m c a
theorem takeOut_c {k : Nat} {m : Mem} {b x : Nat} {l : List Nat} (hb : b < 16) (hx : x ≤ 16) (h : cg k m b l) : ∃ m', fX0_takeOut k (o32 b) (o32 x) m = some m' ∧ cg k m' b (rmv l x) ∧ offC k m m' b := by
  unfold fX0_takeOut
  rw [placeOf_c hb hx h, Option.bind_some]
  by_cases hm : x ∈ l
  · obtain ⟨h1, h2, h3, h4⟩ := h
    have hi := List.idxOf_lt_length_of_mem hm
    rw [plc_in hm, if_pos (o_ge0 (by omega)), sidesOf_c hb ⟨h1, h2, h3, h4⟩, Option.bind_some, show o32 l.length - 1 = o32 (l.length - 1) from o_sub (b := 1) (by omega) (by omega)]
    unfold rmv
    generalize l.idxOf x = i at hi
    refine ⟨mput (tkM k m b i (l.length - 1 - i)) (cw k 7) b (o32 (l.length - 1)), ?_, ?_, ?_⟩
    · have e0 : tkM k m b i 0 = m := by
        funext c a
        unfold tkM
        rw [if_neg (by omega)]
      have st := lp_fwd (body := lX0_takeOut_24 k (o32 b) (o32 (l.length - 1))) (e := mput (tkM k m b i (l.length - 1 - i)) (cw k 7) b (o32 (l.length - 1))) (l.length - 1 - i) (fun j => (o32 (i + j), tkM k m b i j)) fu (fun j hj => ?_) ?_ (lt_fu (by omega))
      · skip
        rw [e0] at st
        exact st
      · unfold lX0_takeOut_24
        dsimp only
        rw [if_neg (by rw [o_le (by omega) (by omega)]; omega), o_s, if_neg (by rw [show (30 : Int32) = o32 30 from rfl, o_le (by omega) (by omega)]; omega), if_pos (o_inb hb (by omega)), if_pos (o_inb hb (by omega)), if_pos (o_inb (by omega) (by omega)), if_pos (o_inb (by omega) (by omega)), o_tn (by omega), o_tn (by omega), o_tn (by omega), show i + (j + 1) = i + j + 1 from rfl]
        congr 3
        funext c a
        rw [mput_get]
        unfold tkM
        by_cases hc : c = cw k (9 + b)
        · subst hc
          simp only [true_and]
          (repeat' split) <;> first | rfl | omega | (congr 1; omega)
        · simp only [hc, ↓reduceIte, false_and]
      · unfold lX0_takeOut_24 bX0_takeOut_66
        dsimp only
        rw [if_pos (by rw [o_le (by omega) (by omega)]; omega), if_pos (o_inb hb (by omega)), o_tn (by omega)]
        rfl
    · have hl : (l.eraseIdx i).length = l.length - 1 := by rw [List.length_eraseIdx, if_pos hi]
      refine ⟨by omega, ?_, fun y hy => h3 y (List.mem_of_mem_eraseIdx hy), fun j hj => ?_⟩
      · rw [mput_at, hl]
      · rw [mput_c _ _ _ (cw_ne (by omega)), List.getElem_eraseIdx]
        unfold tkM
        by_cases hk2 : j < i
        · rw [if_neg (by omega), dif_pos hk2]
          exact h4 j (by omega)
        · rw [if_pos ⟨rfl, by omega, by omega⟩, dif_neg hk2]
          exact h4 (j + 1) (by omega)
    · intro c j h5 h6
      rw [mput_get, if_neg h5]
      unfold tkM
      rw [if_neg (fun z => h6 z.1)]
  · have e : rmv l x = l := by
      unfold rmv
      rw [List.idxOf_eq_length hm]
      exact List.eraseIdx_of_length_le (Nat.le_refl _)
    rw [if_neg (fun z => by
      have := (plc_neg (by have := h.1; omega)).mpr hm
      rw [Int32.lt_iff_toInt_lt] at this
      rw [Int32.le_iff_toInt_le] at z
      omega), e]
    exact ⟨m, rfl, h, fun _ _ _ _ => rfl⟩
theorem takeOut_16 {k : Nat} {m : Mem} {x : Int32} : fX0_takeOut k 16 x m = some m := rfl
noncomputable def ptM (k : Nat) (m : Mem) (b n j : Nat) : Mem := fun c a => if c = cw k (9 + b) ∧ n - j < a ∧ a ≤ n then m c (a - 1) else m c a
theorem putBehind_c {k : Nat} {m : Mem} {b x y : Nat} {l : List Nat} (hb : b < 16) (hx : x ≤ 16) (hy : y ≤ 16) (hm : y ∈ l) (hl : l.length < 30) (h : cg k m b l) : ∃ m', fX0_putBehind k (o32 b) (o32 y) (o32 x) m = some m' ∧ cg k m' b (insb l y x) ∧ offC k m m' b := by
  have hi := List.idxOf_lt_length_of_mem hm
  unfold fX0_putBehind insb
  rw [placeOf_c hb hy h, plc_in hm, Option.bind_some, sidesOf_c hb h, Option.bind_some, if_neg (not_lt0 (by omega)), if_pos (by rw [show (30 : Int32) = o32 30 from rfl, o_lt (by omega) (by omega)]; omega), if_pos hm]
  obtain ⟨h1, h2, h3, h4⟩ := h
  generalize l.idxOf y = i at hi
  refine ⟨mput (mput (ptM k m b l.length (l.length - 1 - i)) (cw k (9 + b)) (i + 1) (o32 x)) (cw k 7) b (o32 (l.length + 1)), ?_, ?_, ?_⟩
  · have e0 : ptM k m b l.length 0 = m := by
      funext c a
      unfold ptM
      rw [if_neg (by omega)]
    have st := lp_fwd (body := lX0_putBehind_32 k (o32 b) (o32 x) (o32 i) (o32 l.length)) (e := mput (mput (ptM k m b l.length (l.length - 1 - i)) (cw k (9 + b)) (i + 1) (o32 x)) (cw k 7) b (o32 (l.length + 1))) (l.length - 1 - i) (fun j => (o32 (l.length - j), ptM k m b l.length j)) fu (fun j hj => ?_) ?_ (lt_fu (by omega))
    · skip
      rw [e0] at st
      exact st
    · unfold lX0_putBehind_32
      dsimp only
      rw [o_s, if_neg (by rw [o_le (by omega) (by omega)]; omega), if_pos (o_inb hb (by omega)), if_pos (o_inb hb (by omega)), show o32 (l.length - j) - 1 = o32 (l.length - j - 1) from o_sub (b := 1) (by omega) (by omega), if_pos (o_inb (by omega) (by omega)), if_pos (o_inb (by omega) (by omega)), less1 (by omega) (by omega), o_tn (by omega), o_tn (by omega), o_tn (by omega), show l.length - j - 1 = l.length - (j + 1) from by omega]
      congr 3
      funext c a
      rw [mput_get]
      unfold ptM
      by_cases hc : c = cw k (9 + b)
      · subst hc
        simp only [true_and]
        (repeat' split) <;> first | rfl | omega | (congr 1; omega)
      · simp only [hc, ↓reduceIte, false_and]
    · unfold lX0_putBehind_32
      dsimp only
      rw [o_s, if_pos (by rw [o_le (by omega) (by omega)]; omega), if_pos (o_inb hb (by omega)), if_pos (o_inb (by omega) (by omega)), if_pos (o_inb hb (by omega)), o_s, o_tn (by omega), o_tn (by omega)]
  · have hl2 : (l.insertIdx (i + 1) x).length = l.length + 1 := List.length_insertIdx_of_le_length (by omega) x
    refine ⟨by omega, ?_, fun z hz => ?_, fun j hj => ?_⟩
    · rw [mput_at, hl2]
    · rcases (List.mem_insertIdx (by omega)).mp hz with z1 | z1
      · omega
      · exact h3 z z1
    · rw [mput_c _ _ _ (cw_ne (by omega)), mput_get, List.getElem_insertIdx]
      unfold ptM
      by_cases e1 : j < i + 1
      · rw [if_neg (by omega), if_neg (by omega), dif_pos e1]
        exact h4 j (by omega)
      · by_cases e2 : j = i + 1
        · rw [if_pos ⟨rfl, e2⟩, dif_neg e1, dif_pos e2]
        · rw [if_neg (by omega), if_pos ⟨rfl, by omega, by omega⟩, dif_neg e1, dif_neg e2]
          exact h4 (j - 1) (by omega)
  · intro c j h5 h6
    rw [mput_get, if_neg h5, mput_c _ _ _ h6]
    unfold ptM
    rw [if_neg (fun z => h6 z.1)]
theorem putBehind_16 {k : Nat} {m : Mem} {x y : Int32} : fX0_putBehind k 16 x y m = some m := rfl
noncomputable def frC (k : Nat) (m m' : Mem) : Prop := ∀ c j, c ≠ cw k 7 → (∀ b, b < 16 → c ≠ cw k (9 + b)) → m' c j = m c j
theorem frC_of {k : Nat} {m m' : Mem} {b : Nat} (hb : b < 16) (h : offC k m m' b) : frC k m m' := fun c j h1 h2 => h c j (fun z => h1 z.1) (h2 b hb)
theorem frC_tr {k : Nat} {m m1 m2 : Mem} (h1 : frC k m m1) (h2 : frC k m1 m2) : frC k m m2 := fun c j a b => (h2 c j a b).trans (h1 c j a b)
theorem frC_rf {k : Nat} {m : Mem} : frC k m m := fun _ _ _ _ => rfl
theorem turnOver_c {k : Nat} {m : Mem} {r : Nat → List Nat} {al : Nat → Bool} {a b : Nat} (ha : a < 16) (hb : b < 16) (hs : CS k m r al) (hg : Gr r al) (hf : FC r al) (ala : al a = true) (alb : al b = true) (hab : b ∈ r a) (ht : mayTurn r a b) : ∃ m', fX0_turnOver k (o32 a) (o32 b) m = some (mput m' (cw k 2) 6 (m (cw k 2) 6 + 1)) ∧ CS k m' (turnR r a b) al ∧ frC k m m' := by
  obtain ⟨hla, hlb, hcd, hn⟩ := ht
  have hg' := turn_Gr ha hb hg ala alb hab hla hlb hcd hn
  have ba := CS_m (k := k) (m := m) hg ha ala hab
  have ba2 := ba.2 (by omega)
  have hc := prv_mem hab
  have hd := nxt_mem hab
  have hcb : prv (r a) b ≠ b := prv_ne hab (hg.2.1 a ha ala b (by omega)) (by omega)
  have hdb : nxt (r a) b ≠ b := nxt_ne hab (hg.2.1 a ha ala b (by omega)) (by omega)
  have pc := CS_m (k := k) (m := m) hg ha ala hc
  have pd := CS_m (k := k) (m := m) hg ha ala hd
  have hcb2 : prv (r a) b = nxt (r b) a := (hf b hb alb a ba2.2.2.2 (by omega)).symm
  have hbc : prv (r a) b ≠ 16 → b ∈ r (prv (r a) b) := fun z => by
    have := CS_m (k := k) (m := m) hg hb alb (nxt_mem ba2.2.2.2)
    rw [← hcb2] at this
    exact (this.2 z).2.2.2
  have eT := fun x => turn_at (r := r) (a := a) (b := b) (x := x) (fun z => ba2.2.2.1 z.symm) (fun z => by
    by_cases h16 : prv (r a) b = 16
    · omega
    · exact (pc.2 h16).2.2.1 z) hcb (fun z => by
    by_cases h16 : nxt (r a) b = 16
    · omega
    · exact (pd.2 h16).2.2.1 z) hdb hcd
  have lc : prv (r a) b ≠ 16 → (r (prv (r a) b)).length < 30 := fun z => by
    have l1 := Gr_len hg' (pc.2 z).1 (pc.2 z).2.1
    rw [eT, if_neg (pc.2 z).2.2.1, if_neg hcb, if_pos ⟨rfl, z⟩, insb_len] at l1
    omega
  have ld : nxt (r a) b ≠ 16 → (r (nxt (r a) b)).length < 30 := fun z => by
    have l1 := Gr_len hg' (pd.2 z).1 (pd.2 z).2.1
    rw [eT, if_neg (pd.2 z).2.2.1, if_neg hdb, if_neg (fun q => hcd q.1.symm), if_pos ⟨rfl, z⟩, insb_len] at l1
    omega
  have ga := CS_g hs ha ala
  unfold fX0_turnOver turnR
  rw [ahead_c ha (by omega) ga hab, behind_c ha (by omega) ga hab, Option.bind_some, Option.bind_some]
  generalize prv (r a) b = c at *
  generalize nxt (r a) b = d at *
  obtain ⟨m1, e1, s1, o1⟩ := takeOut_c (x := b) ha (by omega) ga
  rw [e1, Option.bind_some]
  have S1 := CS_set hs ala o1 s1
  have gb1 : cg k m1 b (r b) := cg_off (CS_g hs hb alb) o1 ba2.2.2.1
  obtain ⟨m2, e2, s2, o2⟩ := takeOut_c (x := a) hb (by omega) gb1
  rw [e2, Option.bind_some]
  have S2 := CS_set S1 alb o2 s2
  have f2 : frC k m m2 := frC_tr (frC_of ha o1) (frC_of hb o2)
  dsimp only
  have fin : ∀ (m3 : Mem) (r3 : Nat → List Nat), CS k m3 r3 al → frC k m m3 → (d ≠ 16 → r3 d = r d) → ∃ m', ((fX0_putBehind k (o32 d) (o32 a) (o32 c) m3).bind fun q6 => some (mput q6 (cw k 2) 6 ((q6 (cw k 2) 6) + 1))) = some (mput m' (cw k 2) 6 (m (cw k 2) 6 + 1)) ∧ CS k m' (if d = 16 then r3 else setR r3 d (insb (r3 d) a c)) al ∧ frC k m m' := by
    intro m3 r3 S3 f3 hl3
    by_cases h16 : d = 16
    · subst h16
      rw [if_pos rfl, show fX0_putBehind k (o32 16) (o32 a) (o32 c) m3 = _ from putBehind_16, Option.bind_some, f3 _ _ (cw_ne (by omega)) (fun b _ => cw_ne (by omega))]
      exact ⟨m3, rfl, S3, f3⟩
    · have pd2 := pd.2 h16
      have gd := CS_g S3 pd2.1 pd2.2.1
      rw [if_neg h16]
      have e3 := hl3 h16
      obtain ⟨m4, e4, s4, o4⟩ := putBehind_c (x := c) (y := a) pd2.1 pc.1 (by omega) (by rw [e3]; exact pd2.2.2.2) (by rw [e3]; exact ld h16) gd
      have f4 := frC_tr f3 (frC_of pd2.1 o4)
      rw [e4, Option.bind_some, f4 _ _ (cw_ne (by omega)) (fun b _ => cw_ne (by omega))]
      exact ⟨m4, rfl, CS_set S3 pd2.2.1 o4 s4, f4⟩
  by_cases h16 : c = 16
  · subst h16
    rw [if_pos rfl, show fX0_putBehind k (o32 16) (o32 b) (o32 d) m2 = _ from putBehind_16, Option.bind_some]
    exact fin m2 _ S2 f2 (fun z => by rw [setR_ne _ _ hdb, setR_ne _ _ (pd.2 z).2.2.1])
  · have pc2 := pc.2 h16
    have gc := CS_g S2 pc2.1 pc2.2.1
    have ec : setR (setR r a (rmv (r a) b)) b (rmv (r b) a) c = r c := by rw [setR_ne _ _ hcb, setR_ne _ _ pc2.2.2.1]
    rw [if_neg h16]
    obtain ⟨m3, e3, s3, o3⟩ := putBehind_c (x := d) (y := b) pc2.1 pd.1 (by omega) (by rw [ec]; exact hbc h16) (by rw [ec]; exact lc h16) gc
    rw [e3, Option.bind_some]
    exact fin m3 _ (CS_set S2 pc2.2.1 o3 s3) (frC_tr f2 (frC_of pc2.1 o3)) (fun z => by rw [setR_ne _ _ (fun q => hcd q.symm), setR_ne _ _ hdb, setR_ne _ _ (pd.2 z).2.2.1])
end
section
/-! THE CLASS: A BUBBLE VANISHES -/
theorem clr_bit {n b x : Nat} (hx : x < 32) : (n &&& (2 ^ b ^^^ 4294967295)).testBit x = (n.testBit x && !decide (x = b)) := by
  rw [Nat.testBit_and, Nat.testBit_xor, Nat.testBit_two_pow, show (4294967295 : Nat) = 2 ^ 32 - 1 by decide, Nat.testBit_two_pow_sub_one, decide_eq_true hx]
  by_cases e : x = b
  · subst e
    simp
  · rw [decide_eq_false e, decide_eq_false (fun z => e z.symm)]
    rfl
theorem bury_c {k : Nat} {m : Mem} {r : Nat → List Nat} {al : Nat → Bool} {b : Nat} (h : CS k m r al) (hb : b < 16) (ala : al b = true) : ∃ m', fX0_bury k (o32 b) m = some m' ∧ CS k m' r (offB al b) ∧ ∀ c j, ¬ (c = cw k 2 ∧ j = 0) → ¬ (c = cw k 7 ∧ j = b) → m' c j = m c j := by
  unfold fX0_bury
  rw [has_c h hb, ala, if_neg (by decide), if_pos (o_inb hb (by omega)), o_tn (by omega), shl_tab b (by omega)]
  obtain ⟨⟨n, h1, h2, h3⟩, h4⟩ := h
  refine ⟨_, rfl, ⟨⟨n &&& (2 ^ b ^^^ 4294967295), Nat.lt_of_le_of_lt Nat.and_le_left h1, ?_, fun x hx => ?_⟩, fun x hx => ?_⟩, ?_⟩
  · rw [mput_c _ _ _ (cw_ne (by omega)), mput_at, h2, show (-1 : Int32) = o32 4294967295 by decide, o_xor, o_and]
  · rw [clr_bit (by omega), h3 x hx]
    unfold offB
    by_cases e : x = b
    · rw [if_pos e, decide_eq_true e, Bool.not_true, Bool.and_false]
    · rw [if_neg e, decide_eq_false e, Bool.not_false, Bool.and_true]
  · by_cases e : x = b
    · subst e
      unfold offB
      rw [if_pos rfl, if_neg (by decide)]
      exact ⟨by decide, by rw [mput_at]; rfl, fun y hy => (List.not_mem_nil hy).elim, fun i hi => absurd hi (by simp)⟩
    · have q := h4 x hx
      unfold offB
      rw [if_neg e]
      refine ⟨q.1, ?_, q.2.2.1, fun i hi => ?_⟩
      · rw [mput_j _ _ _ _ e, mput_c _ _ _ (cw_ne (by omega))]
        exact q.2.1
      · rw [mput_c _ _ _ (cw_ne (by omega)), mput_c _ _ _ (cw_ne (by omega))]
        exact q.2.2.2 i hi
  · intro c j e1 e2
    rw [mput_get, if_neg e2, mput_get, if_neg e1]
theorem lose_c {k : Nat} {m : Mem} {r : Nat → List Nat} {al : Nat → Bool} {a : Nat} (ha : a < 16) (hs : CS k m r al) (hg : Gr r al) (ala : al a = true) : ∃ m', fX0_lose k (o32 a) m = some (mput m' (cw k 2) 7 (m (cw k 2) 7 + 1)) ∧ CS k m' (outR r a (r a)) (offB al a) ∧ ∀ c j, ¬ (c = cw k 2 ∧ j = 0) → c ≠ cw k 7 → (∀ b, b < 16 → c ≠ cw k (9 + b)) → m' c j = m c j := by
  have sa := CS_g hs ha ala
  have la := sa.1
  have irr : a ∉ r a := fun z => ((hg.1 a ha ala a z).2 (by omega)).2.1 rfl
  unfold fX0_lose
  rw [sidesOf_c ha sa, Option.bind_some]
  have key := lp_ix (body := lX0_lose_8 k (o32 a) (o32 (r a).length)) (fun i s => s.1 = o32 i ∧ CS k s.2 (outR r a ((r a).take i)) al ∧ frC k m s.2) (fun e => ∃ m', e = mput m' (cw k 2) 7 (m (cw k 2) 7 + 1) ∧ CS k m' (outR r a (r a)) (offB al a) ∧ ∀ c j, ¬ (c = cw k 2 ∧ j = 0) → c ≠ cw k 7 → (∀ b, b < 16 → c ≠ cw k (9 + b)) → m' c j = m c j) (r a).length 0 (0, m) fu ⟨rfl, by
      have e : outR r a ((r a).take 0) = r := by funext b; unfold outR; simp
      rw [e]
      exact hs, frC_rf⟩ (fun j s _ hj hI => ?_) (fun s hI => ?_) (lt_fu (by omega))
  · obtain ⟨e, e1, m', e2, e3⟩ := key
    exact ⟨m', by rw [← e2]; exact e1, e3⟩
  · obtain ⟨i1, i2, i3⟩ := hI
    have hj : j < (r a).length := by omega
    have oa : outR r a ((r a).take j) a = r a := by
      unfold outR
      rw [if_neg (fun z => irr (List.mem_of_mem_take z.1))]
    have sj := CS_g i2 ha ala
    rw [oa] at sj
    unfold lX0_lose_8
    rw [i1, if_neg (by rw [o_le (by omega) (by omega)]; omega), at_ci ha sj hj, Option.bind_some, o_s]
    have px := hg.1 a ha ala _ (List.getElem_mem hj)
    have cx : (r a)[j] ≠ 16 → (r a)[j] ∉ (r a).take j := fun h z => by
      obtain ⟨k, hk, e⟩ := List.getElem_of_mem z
      have hk2 : k < j := by rw [List.length_take] at hk; omega
      rw [List.getElem_take] at e
      have := count_two (hg.2.1 a ha ala _ h) (by omega) hj e rfl
      omega
    have tk := tk1 hj
    generalize (r a)[j] = x at px cx tk
    by_cases e : x = 16
    · rw [e, show fX0_takeOut k (o32 16) (o32 a) s.2 = _ from takeOut_16, Option.bind_some]
      refine ⟨_, rfl, rfl, ?_, i3⟩
      have e2 : outR r a ((r a).take (j + 1)) = outR r a ((r a).take j) := by
        funext y
        unfold outR
        rw [tk]
        simp only [List.mem_append, List.mem_singleton, e]
        by_cases hy : y = 16
        · simp [hy]
        · simp [hy]
      rw [e2]
      exact i2
    · have hx : x < 16 := by omega
      have px2 := px.2 e
      have ox : outR r a ((r a).take j) x = r x := by
        unfold outR
        rw [if_neg (fun z => cx e z.1)]
      have sx := CS_g i2 hx px2.1
      rw [ox] at sx
      obtain ⟨m', e1, s1, o1⟩ := takeOut_c (x := a) hx (by omega) sx
      rw [e1, Option.bind_some]
      refine ⟨_, rfl, rfl, ?_, frC_tr i3 (frC_of hx o1)⟩
      have e2 : outR r a ((r a).take (j + 1)) = setR (outR r a ((r a).take j)) x (rmv (r x) a) := by
        funext y
        unfold outR setR
        rw [tk]
        simp only [List.mem_append, List.mem_singleton]
        by_cases hy : y = x
        · rw [hy, if_pos ⟨Or.inr rfl, e⟩, if_pos rfl]
        · simp [hy]
      rw [e2]
      exact CS_set i2 px2.1 o1 s1
  · obtain ⟨i1, i2, i3⟩ := hI
    rw [Nat.zero_add] at i1 i2
    rw [List.take_length] at i2
    obtain ⟨m', e1, s1, o1⟩ := bury_c i2 ha ala
    unfold lX0_lose_8
    rw [i1, if_pos (by rw [o_le (by omega) (by omega)]; omega), e1, Option.bind_some]
    refine ⟨_, rfl, m', ?_, s1, fun c j h1 h2 h3 => ?_⟩
    · rw [o1 _ _ (by omega) (fun z => absurd z.1 (cw_ne (by omega))), i3 _ _ (cw_ne (by omega)) (fun b _ => cw_ne (by omega))]
    · rw [o1 _ _ h1 (fun z => h2 z.1)]
      exact i3 _ _ h2 h3
end
section
/-! THE CLASS: A WALL BURSTS -/
theorem cg_same {k : Nat} {m m' : Mem} {b : Nat} {l : List Nat} (hb : b < 16) (h : cg k m b l) (e : ∀ c j, c ≠ cw k 25 → m' c j = m c j) : cg k m' b l := ⟨h.1, by rw [e _ _ (cw_ne (by omega))]; exact h.2.1, h.2.2.1, fun i hi => by rw [e _ _ (cw_ne (by omega))]; exact h.2.2.2 i hi⟩
theorem CS_same {k : Nat} {m m' : Mem} {r : Nat → List Nat} {al : Nat → Bool} (h : CS k m r al) (e : ∀ c j, (c = cw k 2 ∧ j = 0) ∨ c = cw k 7 ∨ (∃ b, b < 16 ∧ c = cw k (9 + b)) → m' c j = m c j) : CS k m' r al := by
  obtain ⟨⟨n, h1, h2, h3⟩, h4⟩ := h
  refine ⟨⟨n, h1, by rw [e _ _ (.inl ⟨rfl, rfl⟩)]; exact h2, h3⟩, fun b hb => ?_⟩
  have q := h4 b hb
  exact ⟨q.1, by rw [e _ _ (.inr (.inl rfl))]; exact q.2.1, q.2.2.1, fun i hi => by rw [e _ _ (.inr (.inr ⟨b, hb, rfl⟩))]; exact q.2.2.2 i hi⟩
noncomputable def swC (k : Nat) (m : Mem) (sw : List Nat) (j : Nat) : Mem := fun c i => if c = cw k 25 ∧ i < j then o32 (sw.getD i 0) else m c i
theorem swC_0 (k : Nat) (m : Mem) (sw : List Nat) : swC k m sw 0 = m := by
  funext c i
  unfold swC
  rw [if_neg (by omega)]
theorem swC_s (k : Nat) (m : Mem) (sw : List Nat) (j : Nat) : mput (swC k m sw j) (cw k 25) j (o32 (sw.getD j 0)) = swC k m sw (j + 1) := by
  funext c i
  rw [mput_get]
  unfold swC
  by_cases e : c = cw k 25
  · by_cases e2 : i = j
    · rw [if_pos ⟨e, e2⟩, if_pos ⟨e, by omega⟩, e2]
    · rw [if_neg (fun z => e2 z.2)]
      by_cases e3 : i < j
      · rw [if_pos ⟨e, e3⟩, if_pos ⟨e, by omega⟩]
      · rw [if_neg (fun z => e3 z.2), if_neg (fun z => by omega)]
  · rw [if_neg (fun z => e z.1), if_neg (fun z => e z.1), if_neg (fun z => e z.1)]
theorem swC_ne {k : Nat} {m : Mem} {sw : List Nat} {j c i : Nat} (h : c ≠ cw k 25) : swC k m sw j c i = m c i := if_neg (fun z => h z.1)
theorem join_c {k : Nat} {m : Mem} {r : Nat → List Nat} {al : Nat → Bool} {a b : Nat} (ha : a < 16) (hb : b < 16) (hs : CS k m r al) (ala : al a = true) (alb : al b = true) (hab : b ∈ r a) (hba : a ∈ r b) (hl : 3 ≤ (r b).length) (h30 : (seam r a b).length ≤ 30) : fX0_joinRings k (o32 a) (o32 b) m = some (o32 (seam r a b).length, swC k m (seam r a b) (seam r a b).length) := by
  have ga := CS_g hs ha ala
  have gb := CS_g hs hb alb
  have la := ga.1
  have lb := gb.1
  have ia := List.idxOf_lt_length_of_mem hab
  have ib := List.idxOf_lt_length_of_mem hba
  have sl := seam_len r a b
  have gA : ∀ j, cg k (swC k m (seam r a b) j) a (r a) := fun j => cg_same ha ga (fun c i h => swC_ne h)
  have gB : ∀ j, cg k (swC k m (seam r a b) j) b (r b) := fun j => cg_same hb gb (fun c i h => swC_ne h)
  unfold fX0_joinRings
  rw [placeOf_c ha (by omega) ga, plc_in hab, Option.bind_some, sidesOf_c ha ga, Option.bind_some, o_s, show o32 (r a).length - 1 = o32 ((r a).length - 1) from o_sub (b := 1) (by omega) (by omega)]
  have st := lp_fwd (body := lX0_joinRings_24 k (o32 a) (o32 b) (o32 ((r a).idxOf b + 1)) (o32 ((r a).length - 1))) (e := (o32 (seam r a b).length, swC k m (seam r a b) (seam r a b).length)) ((r a).length - 1) (fun j => (o32 j, o32 j, swC k m (seam r a b) j)) fu (fun j hj => ?_) ?_ (lt_fu (by omega))
  · skip
    rw [swC_0] at st
    exact st
  · unfold lX0_joinRings_24
    dsimp only
    rw [if_neg (by rw [o_le (by omega) (by omega)]; omega), if_neg (by rw [show (30 : Int32) = o32 30 from rfl, o_le (by omega) (by omega)]; omega), o_add, at_c ha (gA j) (by omega) (by omega), Option.bind_some, if_pos (o_inb (by omega) (by omega)), o_tn (by omega), o_s, Nat.add_assoc, ← seam_g1 hj, swC_s]
  · have last : bX0_joinRings_62 k (o32 a) (o32 b) (o32 ((r a).length - 1)) (swC k m (seam r a b) ((r a).length - 1)) = some (o32 (seam r a b).length, swC k m (seam r a b) (seam r a b).length) := by
      unfold bX0_joinRings_62
      rw [placeOf_c hb (by omega) (gB _), plc_in hba, Option.bind_some, sidesOf_c hb (gB _), Option.bind_some, show o32 (r b).length - 3 = o32 ((r b).length - 3) from o_sub (b := 3) (by omega) (by omega), show o32 ((r b).idxOf a) + 2 = o32 ((r b).idxOf a + 2) from o_add _ 2]
      refine lp_fwd (body := lX0_joinRings_84 k (o32 b) (o32 ((r b).idxOf a + 2)) (o32 ((r b).length - 3))) ((r b).length - 3) (fun j => (o32 ((r a).length - 1 + j), o32 j, swC k m (seam r a b) ((r a).length - 1 + j))) fu (fun j hj => ?_) ?_ (lt_fu (by omega))
      · unfold lX0_joinRings_84
        dsimp only
        rw [if_neg (by rw [o_le (by omega) (by omega)]; omega), if_neg (by rw [show (30 : Int32) = o32 30 from rfl, o_le (by omega) (by omega)]; omega), o_add, at_c hb (gB _) (by omega) (by omega), Option.bind_some, if_pos (o_inb (by omega) (by omega)), o_tn (by omega), o_s, o_s, show (r b).idxOf a + 2 + j = (r b).idxOf a + (2 + j) from Nat.add_assoc _ _ _, ← seam_g2 hj, swC_s]
        rfl
      · unfold lX0_joinRings_84
        dsimp only
        rw [if_pos (by rw [o_le (by omega) (by omega)]; omega), sl]
    unfold lX0_joinRings_24
    dsimp only
    rw [if_pos (by rw [o_le (by omega) (by omega)]; omega), last]
    rfl
theorem placeOf_d {k : Nat} {m : Mem} {r : Nat → List Nat} {al : Nat → Bool} {b x : Nat} (h : CS k m r al) (hb : b < 16) (hx : x ≤ 16) : fX0_placeOf k (o32 b) (o32 x) m = some (if al b then plc (r b) x else -1) := by
  rw [placeOf_c hb hx (h.2 b hb)]
  cases al b <;> rfl
theorem stand_c {k : Nat} {m : Mem} {x a b : Nat} {l : List Nat} (hx : x < 16) (ha : a < 16) (hb : b < 16) (hm : b ∈ l) (h : cg k m x l) : ∃ m', fX0_standForBoth k (o32 x) (o32 a) (o32 b) m = some m' ∧ cg k m' x (stand l a b) ∧ offC k m m' x := by
  have l1 := h.1
  have hi := List.idxOf_lt_length_of_mem hm
  unfold fX0_standForBoth stand
  rw [placeOf_c hx (by omega) h, placeOf_c hx (by omega) h, Option.bind_some, Option.bind_some]
  by_cases e : a ∈ l
  · obtain ⟨m', e1, s1, o1⟩ := takeOut_c (x := b) hx (by omega) h
    rw [if_neg (fun z => (plc_neg (by omega)).mp z e), e1, if_pos e]
    exact ⟨m', rfl, s1, o1⟩
  · rw [if_pos ((plc_neg (by omega)).mpr e), if_neg (fun z => (plc_neg (by omega)).mp z hm), plc_in hm, if_neg (by rw [show (30 : Int32) = o32 30 from rfl, o_le (by omega) (by omega)]; omega), if_pos (o_inb hx (by omega)), if_pos (o_inb (by omega) (by omega)), o_tn (by omega), o_tn (by omega), if_neg e]
    refine ⟨_, rfl, ⟨by rw [List.length_set]; exact l1, ?_, fun y hy => ?_, fun i hi2 => ?_⟩, fun c j h1 h2 => mput_c _ _ _ h2 ▸ rfl⟩
    · rw [mput_c _ _ _ (cw_ne (by omega)), List.length_set]
      exact h.2.1
    · rcases List.mem_or_eq_of_mem_set hy with z | z
      · exact h.2.2.1 y z
      · omega
    · rw [List.length_set] at hi2
      rw [mput_get, List.getElem_set]
      by_cases e : l.idxOf b = i
      · rw [if_pos ⟨rfl, e.symm⟩, if_pos e]
      · rw [if_neg (fun z => e z.2.symm), if_neg e]
        exact h.2.2.2 i hi2
noncomputable def uniM (k : Nat) (m : Mem) (a b : Nat) (sw : List Nat) : Mem := mput (mput (mput (mput (mcpy m (cw k 25) (cw k (9 + a)) 0 0 sw.length) (cw k 7) a (o32 sw.length)) (cw k 3) a 6) (cw k 4) a (fJ9_min_7cf53 99999 (m (cw k 4) a + m (cw k 4) b))) (cw k 5) a (fJ9_min_7cf53 99999 (m (cw k 5) a + m (cw k 5) b))
theorem mcpy_get (m : Mem) (q e sp dp n c j : Nat) : mcpy m q e sp dp n c j = if c = e ∧ dp ≤ j ∧ j < dp + n then m q (sp + (j - dp)) else m c j := by
  unfold mcpy
  by_cases h1 : c = e
  · subst h1
    rw [show Nat.beq c c = true from Nat.beq_refl c, Bool.true_and]
    by_cases h2 : dp ≤ j
    · rw [show Nat.ble dp j = true from Nat.ble_eq_true_of_le h2, Bool.true_and]
      by_cases h3 : j < dp + n
      · rw [show Nat.blt j (dp + n) = true from Nat.ble_eq_true_of_le h3, if_pos ⟨rfl, h2, h3⟩]
        rfl
      · rw [show Nat.blt j (dp + n) = false from by
          cases hb : Nat.blt j (dp + n) with
          | false => rfl
          | true => exact absurd (Nat.le_of_ble_eq_true hb) h3, if_neg (fun z => h3 z.2.2)]
        rfl
    · rw [show Nat.ble dp j = false from by
          cases hb : Nat.ble dp j with
          | false => rfl
          | true => exact absurd (Nat.le_of_ble_eq_true hb) h2, if_neg (fun z => h2 z.2.1)]
      rfl
  · rw [beq_ne h1, if_neg (fun z => h1 z.1)]
    rfl
theorem uniM_CS {k : Nat} {m : Mem} {r : Nat → List Nat} {al : Nat → Bool} {a b : Nat} {sw : List Nat} (ha : a < 16) (ala : al a = true) (hs : CS k m r al) (h30 : sw.length ≤ 30) (h16 : ∀ x ∈ sw, x ≤ 16) (hj : ∀ i, i < sw.length → m (cw k 25) i = o32 (sw.getD i 0)) : CS k (uniM k m a b sw) (setR r a sw) al := by
  have A : offC k m (mput (mcpy m (cw k 25) (cw k (9 + a)) 0 0 sw.length) (cw k 7) a (o32 sw.length)) a := fun c j h1 h2 => by
    rw [mput_get, if_neg h1, mcpy_get, if_neg (fun z => h2 z.1)]
  have B : cg k (mput (mcpy m (cw k 25) (cw k (9 + a)) 0 0 sw.length) (cw k 7) a (o32 sw.length)) a sw := by
    refine ⟨h30, by rw [mput_at], h16, fun i hi => ?_⟩
    rw [mput_c _ _ _ (cw_ne (by omega)), mcpy_get, if_pos ⟨rfl, by omega, by omega⟩, show 0 + (i - 0) = i by omega, hj i hi, getD_g hi]
  refine CS_same (CS_set hs ala A B) (fun c j hc => ?_)
  unfold uniM
  have h3 : c ≠ cw k 3 ∧ c ≠ cw k 4 ∧ c ≠ cw k 5 := by
    rcases hc with hc | hc | ⟨x, hx, hc⟩
    · rw [hc.1]; exact ⟨cw_ne (by omega), cw_ne (by omega), cw_ne (by omega)⟩
    · rw [hc]; exact ⟨cw_ne (by omega), cw_ne (by omega), cw_ne (by omega)⟩
    · rw [hc]; exact ⟨cw_ne (by omega), cw_ne (by omega), cw_ne (by omega)⟩
  rw [mput_c _ _ _ h3.2.2, mput_c _ _ _ h3.2.1, mput_c _ _ _ h3.1]
end
section
/-! THE CLASS: A WALL BURSTS, THE WHOLE -/
noncomputable def uniF (k : Nat) (m : Mem) (a b c j : Nat) : Int32 := if c = cw k 5 ∧ j = a then fJ9_min_7cf53 99999 (m (cw k 5) a + m (cw k 5) b) else if c = cw k 4 ∧ j = a then fJ9_min_7cf53 99999 (m (cw k 4) a + m (cw k 4) b) else if c = cw k 3 ∧ j = a then 6 else m c j
theorem uni_end {k : Nat} {m : Mem} {r1 : Nat → List Nat} {al : Nat → Bool} {a b : Nat} {sw : List Nat} (ha : a < 16) (hb : b < 16) (ala : al a = true) (alb : al b = true) (hs : CS k m r1 al) (h30 : sw.length ≤ 30) (h16 : ∀ x ∈ sw, x ≤ 16) (hj : ∀ i, i < sw.length → m (cw k 25) i = o32 (sw.getD i 0)) : ∃ m', lX0_unite_43 k (o32 a) (o32 b) (o32 sw.length) (16, m) = some (.inr (mput m' (cw k 2) 8 (m (cw k 2) 8 + 1))) ∧ CS k m' (setR r1 a sw) (offB al b) ∧ ∀ c j, ¬ (c = cw k 2 ∧ j = 0) → c ≠ cw k 7 → (∀ b, b < 16 → c ≠ cw k (9 + b)) → m' c j = uniF k m a b c j := by
  have S := uniM_CS (b := b) ha ala hs h30 h16 hj
  obtain ⟨m', e1, s1, o1⟩ := bury_c S hb alb
  have R4 : ∀ x v w, (mput (mput (mcpy m (cw k 25) (cw k (9 + a)) 0 0 sw.length) (cw k 7) a v) (cw k 3) a w) (cw k 4) x = m (cw k 4) x := fun x v w => by
    rw [mput_c _ _ _ (cw_ne (by omega)), mput_c _ _ _ (cw_ne (by omega)), mcpy_c _ _ _ _ (cw_ne (by omega))]
  have R5 : ∀ x u v w, (mput (mput (mput (mcpy m (cw k 25) (cw k (9 + a)) 0 0 sw.length) (cw k 7) a v) (cw k 3) a w) (cw k 4) a u) (cw k 5) x = m (cw k 5) x := fun x u v w => by
    rw [mput_c _ _ _ (cw_ne (by omega)), mput_c _ _ _ (cw_ne (by omega)), mput_c _ _ _ (cw_ne (by omega)), mcpy_c _ _ _ _ (cw_ne (by omega))]
  have e8 : m' (cw k 2) 8 = m (cw k 2) 8 := by
    rw [o1 _ _ (by omega) (fun z => absurd z.1 (cw_ne (by omega)))]
    unfold uniM
    rw [mput_c _ _ _ (cw_ne (by omega)), mput_c _ _ _ (cw_ne (by omega)), mput_c _ _ _ (cw_ne (by omega)), mput_c _ _ _ (cw_ne (by omega)), mcpy_c _ _ _ _ (cw_ne (by omega))]
  refine ⟨m', ?_, s1, fun c j h1 h2 h3 => ?_⟩
  · have key : ∀ z, z = uniM k m a b sw → ((fX0_bury k (o32 b) z).bind fun q18 => (some (.inr (mput q18 (cw k 2) 8 ((q18 (cw k 2) 8) + (1 : Int32)))) : Option ((Int32 × Mem) ⊕ Mem))) = some (.inr (mput m' (cw k 2) 8 (m (cw k 2) 8 + 1))) := fun z hz => by
      rw [hz, e1, Option.bind_some, e8]
    have ia := o_inb ha (show a < 2147483648 by omega)
    have ib := o_inb hb (show b < 2147483648 by omega)
    have ic : cpin 0 0 (o32 sw.length) 30 30 := ⟨by decide, by decide, o_ge0 (by omega), by rw [o_tn (by omega)]; show 0 + _ ≤ _; omega, by rw [o_tn (by omega)]; show 0 + _ ≤ _; omega⟩
    have ta : (o32 a).toNatClampNeg = a := o_tn (by omega)
    have tb : (o32 b).toNatClampNeg = b := o_tn (by omega)
    have ts : (o32 sw.length).toNatClampNeg = sw.length := o_tn (by omega)
    unfold lX0_unite_43
    dsimp only
    rw [if_pos (by decide), if_pos ia, if_pos ic, if_pos ia, if_pos ia, if_pos ia, if_pos ib, if_pos ia, if_pos ia, if_pos ib, if_pos ia, ta, tb, ts]
    refine key _ ?_
    unfold uniM
    rw [R4, R4, R5, R5]
  · rw [o1 _ _ h1 (fun z => h2 z.1)]
    unfold uniM uniF
    rw [mput_get, mput_get, mput_get, mput_c _ _ _ h2, mcpy_c _ _ _ _ (h3 a ha)]
theorem uni_loop {k : Nat} {m : Mem} {r : Nat → List Nat} {al : Nat → Bool} {a b : Nat} {sw : List Nat} (ha : a < 16) (hb : b < 16) (hab : a ≠ b) (ala : al a = true) (alb : al b = true) (hg : Gr r al) (hs : CS k m r al) (h30 : sw.length ≤ 30) (h16 : ∀ x ∈ sw, x ≤ 16) (hj : ∀ i, i < sw.length → m (cw k 25) i = o32 (sw.getD i 0)) : ∃ m', lp (lX0_unite_43 k (o32 a) (o32 b) (o32 sw.length)) fu (0, m) = some (mput m' (cw k 2) 8 (m (cw k 2) 8 + 1)) ∧ CS k m' (setR (burX r al a b 16) a sw) (offB al b) ∧ ∀ c j, ¬ (c = cw k 2 ∧ j = 0) → c ≠ cw k 7 → (∀ b, b < 16 → c ≠ cw k (9 + b)) → m' c j = uniF k m a b c j := by
  have key := lp_ix (body := lX0_unite_43 k (o32 a) (o32 b) (o32 sw.length)) (fun i s => s.1 = o32 i ∧ CS k s.2 (burX r al a b i) al ∧ frC k m s.2) (fun e => ∃ m', e = mput m' (cw k 2) 8 (m (cw k 2) 8 + 1) ∧ CS k m' (setR (burX r al a b 16) a sw) (offB al b) ∧ ∀ c j, ¬ (c = cw k 2 ∧ j = 0) → c ≠ cw k 7 → (∀ b, b < 16 → c ≠ cw k (9 + b)) → m' c j = uniF k m a b c j) 16 0 (0, m) fu ⟨rfl, by
      have e : burX r al a b 0 = r := by funext y; unfold burX; rw [if_neg (by omega)]
      rw [e]
      exact hs, frC_rf⟩ (fun x s _ hx hI => ?_) (fun s hI => ?_) (lt_fu (by omega))
  · obtain ⟨e, e1, m', e2, e3⟩ := key
    exact ⟨m', by rw [← e2]; exact e1, e3⟩
  · obtain ⟨i1, i2, i3⟩ := hI
    have hx : x < 16 := by omega
    have bx : burX r al a b x x = r x := by unfold burX; rw [if_neg (by omega)]
    have same : (x ≠ a → x ≠ b → al x = true → b ∉ r x) → burX r al a b (x + 1) = burX r al a b x := fun h => by
      funext y
      unfold burX
      by_cases e : y = x
      · subst e
        rw [if_neg (fun z => h z.2.1 z.2.2.1 z.2.2.2.1 z.2.2.2.2), if_neg (by omega)]
      · by_cases e2 : y < x
        · simp only [show (y < x + 1) = True by simp; omega, show (y < x) = True by simp; omega]
        · simp only [show (y < x + 1) = False by simp; omega, show (y < x) = False by simp; omega]
    unfold lX0_unite_43
    rw [i1, if_neg (not_16 hx)]
    by_cases q1 : x = a
    · rw [if_pos (by rw [q1]), o_s]
      exact ⟨_, rfl, rfl, by rw [same (fun h => absurd q1 h)]; exact i2, i3⟩
    · rw [if_neg (by rw [o_eq (by omega) (by omega)]; exact q1), placeOf_d i2 hx (by omega), bx, Option.bind_some]
      by_cases q4 : x ≠ b ∧ al x = true ∧ b ∈ r x
      · obtain ⟨q2, q3, q5⟩ := q4
        have sx := CS_g i2 hx q3
        rw [bx] at sx
        obtain ⟨m', e1, s1, o1⟩ := stand_c (a := a) hx ha hb q5 sx
        rw [q3, if_pos rfl, if_neg (fun z => (plc_neg (by have := sx.1; omega)).mp z q5), e1, Option.bind_some, o_s]
        have new : burX r al a b (x + 1) = setR (burX r al a b x) x (stand (r x) a b) := by
          funext y
          unfold burX setR
          by_cases e : y = x
          · rw [e, if_pos ⟨by omega, q1, q2, q3, q5⟩, if_pos rfl]
          · rw [if_neg e]
            by_cases e2 : y < x
            · simp only [show (y < x + 1) = True by simp; omega, show (y < x) = True by simp; omega]
            · simp only [show (y < x + 1) = False by simp; omega, show (y < x) = False by simp; omega]
        refine ⟨_, rfl, rfl, ?_, frC_tr i3 (frC_of hx o1)⟩
        rw [new]
        exact CS_set i2 q3 o1 s1
      · have hneg : (if al x = true then plc (r x) b else -1) < 0 := by
          by_cases q3 : al x = true
          · have sx := CS_g i2 hx q3
            rw [bx] at sx
            rw [if_pos q3]
            refine (plc_neg (by have := sx.1; omega)).mpr (fun q5 => q4 ⟨fun q2 => ?_, q3, q5⟩)
            rw [q2] at q5
            exact ((hg.1 b hb alb b q5).2 (by omega)).2.1 rfl
          · rw [if_neg q3]
            decide
        rw [if_pos hneg, o_s]
        exact ⟨_, rfl, rfl, by rw [same (fun _ h2 h3 h5 => q4 ⟨h2, h3, h5⟩)]; exact i2, i3⟩
  · obtain ⟨i1, i2, i3⟩ := hI
    rw [Nat.zero_add] at i1 i2
    obtain ⟨s1, s2⟩ := s
    dsimp only at i1 i2 i3
    subst i1
    obtain ⟨m', e1, c1, f1⟩ := uni_end ha hb ala alb i2 h30 h16 (fun i hi => by rw [i3 _ _ (cw_ne (by omega)) (fun b _ => cw_ne (by omega))]; exact hj i hi)
    have f2 := fun c j (h1 : c ≠ cw k 7) (h2 : ∀ b, b < 16 → c ≠ cw k (9 + b)) => i3 c j h1 h2
    rw [f2 _ _ (cw_ne (by omega)) (fun b _ => cw_ne (by omega))] at e1
    refine ⟨_, e1, m', rfl, c1, fun c j h1 h2 h3 => ?_⟩
    rw [f1 c j h1 h2 h3]
    unfold uniF
    rw [f2 (cw k 5) a (cw_ne (by omega)) (fun b _ => cw_ne (by omega)), f2 (cw k 5) b (cw_ne (by omega)) (fun b _ => cw_ne (by omega)), f2 (cw k 4) a (cw_ne (by omega)) (fun b _ => cw_ne (by omega)), f2 (cw k 4) b (cw_ne (by omega)) (fun b _ => cw_ne (by omega)), f2 c j h2 h3]
theorem unite_lo {k : Nat} {m : Mem} {r : Nat → List Nat} {al : Nat → Bool} {a b x y : Nat} (ha : a < 16) (hb : b < 16) (hne : a ≠ b) (hs : CS k m r al) (hg : Gr r al) (hf : FC r al) (ala : al a = true) (alb : al b = true) (hab : b ∈ r a) (hcd : prv (r a) b ≠ nxt (r a) b) (hc : ∀ x, x ∈ r a → x ∈ r b → x = prv (r a) b ∨ x = nxt (r a) b)
    (hx : min x y = a) (hy : max x y = b) (hx16 : x < 16) (hy16 : y < 16) : ∃ m', fX0_unite k (o32 x) (o32 y) m = some (mput m' (cw k 2) 8 (m (cw k 2) 8 + 1)) ∧ CS k m' (burR r al a b) (offB al b) ∧ ∀ c j, ¬ (c = cw k 2 ∧ j = 0) → c ≠ cw k 7 → (∀ b, b < 16 → c ≠ cw k (9 + b)) → c ≠ cw k 25 → m' c j = uniF k m a b c j := by
  have G := burst_Gr ha hb hne hg hf ala alb hab hcd hc
  have ea : burR r al a b a = seam r a b := setR_at _ _ _
  have aa : offB al b a = true := offB_t.mpr ⟨ala, hne⟩
  have l30 := Gr_len G ha aa
  rw [ea] at l30
  obtain ⟨_, B, _, _, _, _, _, _, lb⟩ := faces_ab ha hb hg hf ala alb hab hcd
  have hba : a ∈ r b := ((hg.1 a ha ala b hab).2 (by omega)).2.2
  have J := join_c ha hb hs ala alb hab hba (by omega) l30
  unfold fX0_unite
  rw [min_o (by omega) (by omega), max_o (by omega) (by omega), hx, hy, has_c hs ha, has_c hs hb, ala, alb, if_neg (by decide), if_neg (by decide), J, Option.bind_some]
  have S2 : CS k (swC k m (seam r a b) (seam r a b).length) r al := CS_same hs (fun c j hc => swC_ne (by
    rcases hc with hc | hc | ⟨z, hz, hc⟩
    · rw [hc.1]; exact cw_ne (by omega)
    · rw [hc]; exact cw_ne (by omega)
    · rw [hc]; exact cw_ne (by omega)))
  obtain ⟨m', e1, c1, f1⟩ := uni_loop ha hb hne ala alb hg S2 l30 (fun x hx => (G.1 a ha aa x (by rw [ea]; exact hx)).1) (fun i hi => by unfold swC; rw [if_pos ⟨rfl, hi⟩])
  rw [swC_ne (cw_ne (by omega))] at e1
  refine ⟨m', e1, c1, fun c j h1 h2 h3 h4 => ?_⟩
  rw [f1 c j h1 h2 h3]
  unfold uniF
  rw [swC_ne (cw_ne (by omega)), swC_ne (cw_ne (by omega)), swC_ne (cw_ne (by omega)), swC_ne (cw_ne (by omega)), swC_ne h4]
theorem mayBur_of {r : Nat → List Nat} {a b : Nat} (hm : mayBur r a b = true) : prv (r a) b ≠ nxt (r a) b ∧ ∀ x, x ∈ r a → x ∈ r b → x = prv (r a) b ∨ x = nxt (r a) b := by
  unfold mayBur at hm
  simp only [Bool.and_eq_true, Bool.not_eq_true', decide_eq_false_iff_not] at hm
  obtain ⟨⟨hcd, _⟩, hall⟩ := hm
  refine ⟨hcd, fun x h1 h2 => ?_⟩
  have e := List.all_eq_true.mp hall x h1
  unfold okB at e
  simp only [Bool.or_eq_true, decide_eq_true_eq, Bool.not_eq_true', decide_eq_false_iff_not] at e
  rcases e with (e | e) | e
  · exact .inl e
  · exact .inr e
  · exact absurd h2 e
/-- what both ends of a wall that bursts see, told from the lesser one on -/
theorem mayBur_lo {r : Nat → List Nat} {al : Nat → Bool} {a b : Nat} (ha : a < 16) (hb : b < 16) (hg : Gr r al) (hf : FC r al) (ala : al a = true) (alb : al b = true) (hab : b ∈ r a) (hm : mayBur r a b = true) : max a b ∈ r (min a b) ∧ prv (r (min a b)) (max a b) ≠ nxt (r (min a b)) (max a b) ∧ ∀ x, x ∈ r (min a b) → x ∈ r (max a b) → x = prv (r (min a b)) (max a b) ∨ x = nxt (r (min a b)) (max a b) := by
  obtain ⟨hcd, hc⟩ := mayBur_of hm
  have hba : a ∈ r b := ((hg.1 a ha ala b hab).2 (by omega)).2.2
  rcases Nat.lt_or_ge a b with h | h
  · rw [show min a b = a by omega, show max a b = b by omega]
    exact ⟨hab, hcd, hc⟩
  · rw [show min a b = b by omega, show max a b = a by omega]
    have f1 : prv (r b) a = nxt (r a) b := (hf a ha ala b hab (by omega)).symm
    have f2 : nxt (r b) a = prv (r a) b := hf b hb alb a hba (by omega)
    refine ⟨hba, by rw [f1, f2]; exact Ne.symm hcd, fun x h1 h2 => ?_⟩
    rw [f1, f2]
    exact (hc x h2 h1).symm
end
section
/-! THE CLASS: A RING OF A NEW FOAM -/
noncomputable def rcel (k : Nat) (m : Mem) (b : Nat) (l : List Nat) : Prop := ∀ i, (h : i < l.length) → m (cw k (9 + b)) i = o32 l[i]
noncomputable def pcV (x2 x3 rr cc : Int32) : Int32 := if rr < 0 then 16 else if x3 ≤ rr then 16 else if cc < 0 then 16 else if x2 ≤ cc then 16 else rr * x2 + cc
noncomputable def plT (w h j i t : Nat) : Nat := (plL w h j i (i + j % 2)).getD t 0
noncomputable def stT (p : Nat) : List Int32 := if p = 1 then jcst_1 else jcst_2
theorem pc_tab0 : ((List.range 2).all fun p => (List.range 5).all fun w => (List.range 5).all fun h => (List.range 4).all fun j => (List.range 4).all fun i => (List.range 6).all fun t => !decide (j % 2 = p) || decide (pcV (o32 w) (o32 h) (o32 j + jcst_0.getD t 0) (o32 i + (stT p).getD t 0) = o32 (plT w h j i t))) = true := by decide +kernel
theorem pc_tab (p : Nat) (hp : p < 2) (w : Nat) (hw : w < 5) (h : Nat) (hh : h < 5) (j : Nat) (hj : j < 4) (i : Nat) (hi : i < 4) (t : Nat) (ht : t < 6) (hjp : j % 2 = p) : pcV (o32 w) (o32 h) (o32 j + jcst_0.getD t 0) (o32 i + (stT p).getD t 0) = o32 (plT w h j i t) := by
  have e1 := List.all_eq_true.mp pc_tab0 p (List.mem_range.mpr hp)
  have e2 := List.all_eq_true.mp e1 w (List.mem_range.mpr hw)
  have e3 := List.all_eq_true.mp e2 h (List.mem_range.mpr hh)
  have e4 := List.all_eq_true.mp e3 j (List.mem_range.mpr hj)
  have e5 := List.all_eq_true.mp e4 i (List.mem_range.mpr hi)
  have e6 := List.all_eq_true.mp e5 t (List.mem_range.mpr ht)
  rw [decide_eq_true hjp] at e6
  exact of_decide_eq_true e6
theorem jc_tab : ∀ t, t < 6 → jat jcst_0 (o32 t) = some (jcst_0.getD t 0) ∧ jat jcst_1 (o32 t) = some (jcst_1.getD t 0) ∧ jat jcst_2 (o32 t) = some (jcst_2.getD t 0) := by decide +kernel
noncomputable def pfx (w h j i t : Nat) : List Nat := ((plL w h j i (i + j % 2)).take t).foldl pushR []
theorem pfx_s (w h j i t : Nat) (ht : t < 6) : pfx w h j i (t + 1) = pushR (pfx w h j i t) (plT w h j i t) := by
  unfold pfx plT
  match t, ht with
  | 0, _ => rfl
  | 1, _ => rfl
  | 2, _ => rfl
  | 3, _ => rfl
  | 4, _ => rfl
  | 5, _ => rfl
theorem fold_len : ∀ (l s : List Nat), (l.foldl pushR s).length ≤ s.length + l.length
  | [], s => Nat.le_refl _
  | x :: l, s => by
    have h1 := fold_len l (pushR s x)
    have h2 := pushR_len s x
    show (l.foldl pushR (pushR s x)).length ≤ s.length + (l.length + 1)
    omega
theorem pfx_len (w h j i t : Nat) : (pfx w h j i t).length ≤ 6 := by
  have h1 := fold_len ((plL w h j i (i + j % 2)).take t) []
  have h2 : ((plL w h j i (i + j % 2)).take t).length ≤ 6 := by
    rw [List.length_take]
    exact Nat.min_le_right _ _
  show (((plL w h j i (i + j % 2)).take t).foldl pushR []).length ≤ 6
  have h3 : ([] : List Nat).length = 0 := rfl
  omega
theorem fold_16 : ∀ (l s : List Nat), (∀ x ∈ l, x ≤ 16) → (∀ x ∈ s, x ≤ 16) → ∀ x ∈ l.foldl pushR s, x ≤ 16
  | [], _, _, h => h
  | y :: l, s, h1, h2 => fold_16 l (pushR s y) (fun x hx => h1 x (List.mem_cons_of_mem _ hx)) (fun x hx => by
    unfold pushR at hx
    split at hx
    · exact h2 x hx
    · rcases List.mem_append.mp hx with z | z
      · exact h2 x z
      · rw [List.mem_singleton.mp z]
        exact h1 y List.mem_cons_self)
theorem pfx_16 {w h j i : Nat} (h1 : ∀ x ∈ plL w h j i (i + j % 2), x ≤ 16) (t : Nat) : ∀ x ∈ pfx w h j i t, x ≤ 16 := fold_16 _ _ (fun x hx => h1 x (List.mem_of_mem_take hx)) (fun x hx => (List.not_mem_nil hx).elim)
theorem plT_le {w h j i : Nat} (h1 : ∀ x ∈ plL w h j i (i + j % 2), x ≤ 16) (t : Nat) (ht : t < 6) : plT w h j i t ≤ 16 := by
  unfold plT
  have hl : (plL w h j i (i + j % 2)).length = 6 := rfl
  rw [getD_g (by omega)]
  exact h1 _ (List.getElem_mem _)
theorem r107 {k : Nat} {m : Mem} {b x w h i t : Nat} {l : List Nat} (hb : b < 16) (hx : x ≤ 16) (hl : l.length < 30) (h16 : ∀ y ∈ l, y ≤ 16) (hr : rcel k m b l) : ∃ m', bX0_makeRing_107 k (o32 b) (o32 w) (o32 h) (o32 i) (o32 l.length) (o32 t) (o32 x) m = some (.inl (o32 (pushR l x).length, o32 (t + 1), m')) ∧ rcel k m' b (pushR l x) ∧ ∀ c j, c ≠ cw k (9 + b) → m' c j = m c j := by
  have app : ∃ m', bX0_makeRing_137 k (o32 b) (o32 w) (o32 h) (o32 i) (o32 l.length) (o32 t) (o32 x) m = some (.inl (o32 (l ++ [x]).length, o32 (t + 1), m')) ∧ rcel k m' b (l ++ [x]) ∧ ∀ c j, c ≠ cw k (9 + b) → m' c j = m c j := by
    unfold bX0_makeRing_137
    rw [if_pos (o_inb hb (by omega)), if_pos (o_inb hl (by omega)), o_tn (by omega), o_tn (by omega), o_s, o_s, List.length_append, List.length_singleton]
    refine ⟨_, rfl, fun j hj => ?_, fun c j hc => mput_c _ _ _ hc ▸ rfl⟩
    rw [List.length_append, List.length_singleton] at hj
    rw [mput_get, List.getElem_append]
    by_cases e : j = l.length
    · rw [if_pos ⟨rfl, e⟩, dif_neg (by omega)]
      simp [e]
    · rw [if_neg (fun z => e z.2), dif_pos (by omega)]
      exact hr j (by omega)
  unfold bX0_makeRing_107 pushR
  rcases ends l with h0 | ⟨A, z, h0⟩
  · subst h0
    rw [if_pos (by rfl), if_neg (by simp)]
    exact app
  · have hlen : l.length = A.length + 1 := by rw [h0, List.length_append, List.length_singleton]
    rw [if_neg (by rw [show (0 : Int32) = o32 0 from rfl, o_eq (by omega) (by omega)]; omega)]
    by_cases hx16 : x = 16
    · have hz : z ≤ 16 := h16 z (by rw [h0]; exact List.mem_append_right _ List.mem_cons_self)
      have rz : m (cw k (9 + b)) (l.length - 1) = o32 z := by
        have := hr (l.length - 1) (by omega)
        rw [this]
        congr 1
        simp [h0]
      have gl : l.getLast? = some z := by rw [h0]; simp
      rw [if_pos ((e16 hx).mpr hx16), if_pos (o_inb hb (by omega)), show o32 l.length - 1 = o32 (l.length - 1) from o_sub (b := 1) (by omega) (by omega), if_pos (o_inb (by omega) (by omega)), o_tn (by omega), o_tn (by omega), rz, gl]
      by_cases hz16 : z = 16
      · rw [if_pos ((e16 hz).mpr hz16), if_pos ⟨hx16, by rw [hz16]⟩, o_s]
        exact ⟨m, rfl, hr, fun _ _ _ => rfl⟩
      · rw [if_neg (fun q => hz16 ((e16 hz).mp q)), if_neg (fun q => hz16 (Option.some.inj q.2))]
        exact app
    · rw [if_neg (fun q => hx16 ((e16 hx).mp q)), if_neg (fun q => hx16 q.1)]
      exact app
theorem r88 {k : Nat} {x1 x2 x3 x4 x6 x7 rr cc : Int32} {m : Mem} : (if rr < 0 then bX0_makeRing_88 k x1 x2 x3 x4 x6 x7 rr cc 0 m else (if x3 ≤ rr then bX0_makeRing_88 k x1 x2 x3 x4 x6 x7 rr cc 0 m else (if cc < 0 then bX0_makeRing_88 k x1 x2 x3 x4 x6 x7 rr cc 0 m else (if x2 ≤ cc then bX0_makeRing_88 k x1 x2 x3 x4 x6 x7 rr cc 0 m else bX0_makeRing_88 k x1 x2 x3 x4 x6 x7 rr cc 1 m)))) = bX0_makeRing_107 k x1 x2 x3 x4 x6 x7 (pcV x2 x3 rr cc) m := by
  unfold bX0_makeRing_88 pcV
  rw [if_pos rfl, if_neg (show ¬ (1 : Int32) = 0 by decide)]
  by_cases h1 : rr < 0
  · rw [if_pos h1, if_pos h1]
  · rw [if_neg h1, if_neg h1]
    by_cases h2 : x3 ≤ rr
    · rw [if_pos h2, if_pos h2]
    · rw [if_neg h2, if_neg h2]
      by_cases h3 : cc < 0
      · rw [if_pos h3, if_pos h3]
      · rw [if_neg h3, if_neg h3]
        by_cases h4 : x2 ≤ cc
        · rw [if_pos h4, if_pos h4]
        · rw [if_neg h4, if_neg h4]
theorem ring_c {k : Nat} {m : Mem} {b w h j i : Nat} (hb : b < 16) (hw : w < 5) (hh : h < 5) (hj : j < 4) (hi : i < 4) (hp : j % 2 = 1) (hrow : m (cw k 6) b = o32 j) : ∃ m', lp (lX0_makeRing_29 k (o32 b) (o32 w) (o32 h) (o32 i)) fu (0, 0, m) = some m' ∧ cg k m' b (trimR (ring6 w h j i (i + j % 2))) ∧ offC k m m' b := by
  have p16 := pl_l (w := w) (h := h) (j := j) (i := i) (y := i + j % 2) hw hh hj hi (by omega)
  have key := lp_ix (body := lX0_makeRing_29 k (o32 b) (o32 w) (o32 h) (o32 i)) (fun t s => s.1 = o32 (pfx w h j i t).length ∧ s.2.1 = o32 t ∧ rcel k s.2.2 b (pfx w h j i t) ∧ ∀ c z, c ≠ cw k (9 + b) → s.2.2 c z = m c z) (fun m' => cg k m' b (trimR (ring6 w h j i (i + j % 2))) ∧ offC k m m' b) 6 0 (0, 0, m) fu ⟨rfl, rfl, fun z hz => absurd hz (by simp [pfx]), fun _ _ _ => rfl⟩ (fun t s _ ht hI => ?_) (fun s hI => ?_) (lt_fu (by omega))
  · exact key
  · obtain ⟨i1, i2, i3, i4⟩ := hI
    have ht6 : t < 6 := by omega
    have tb : pcV (o32 w) (o32 h) (o32 j + jcst_0.getD t 0) (o32 i + jcst_1.getD t 0) = o32 (plT w h j i t) := pc_tab 1 (by omega) w hw h hh j hj i hi t ht6 hp
    have t0 : jat jcst_0 (o32 t) = some (jcst_0.getD t 0) := (jc_tab t ht6).1
    have t1 : jat jcst_1 (o32 t) = some (jcst_1.getD t 0) := (jc_tab t ht6).2.1
    have lt := pfx_len w h j i t
    have e6 : s.2.2 (cw k 6) (o32 b).toNatClampNeg = o32 j := by rw [o_tn (by omega), i4 _ _ (cw_ne (by omega))]; exact hrow
    unfold lX0_makeRing_29
    rw [i2, if_neg (by rw [show (6 : Int32) = o32 6 from rfl, o_le (by omega) (by omega)]; omega), if_pos (o_inb hb (by omega)), t0, t1, Option.bind_some, Option.bind_some, e6, i1, r88, tb]
    obtain ⟨m', e1, r1, f1⟩ := r107 (w := w) (h := h) (i := i) (t := t) hb (plT_le p16 t ht6) (by omega) (pfx_16 p16 t) i3
    exact ⟨_, e1, by rw [pfx_s w h j i t ht6], rfl, by rw [pfx_s w h j i t ht6]; exact r1, fun c z hc => (f1 c z hc).trans (i4 c z hc)⟩
  · obtain ⟨i1, i2, i3, i4⟩ := hI
    have l6 := pfx_len w h j i (0 + 6)
    have q16 := pfx_16 p16 (0 + 6)
    have e6 : pfx w h j i (0 + 6) = ring6 w h j i (i + j % 2) := rfl
    rw [e6] at l6 q16 i3 i1
    unfold lX0_makeRing_29
    rw [i2, if_pos (show (6 : Int32) ≤ o32 (0 + 6) by decide), i1]
    generalize ring6 w h j i (i + j % 2) = l at *
    have fin : ∀ l2 : List Nat, l2.length ≤ 6 → (∀ y ∈ l2, y ≤ 16) → rcel k s.2.2 b l2 → ∃ e, (bX0_makeRing_195 k (o32 b) (o32 l2.length) s.2.2).map (Sum.inr : Mem → (Int32 × Int32 × Mem) ⊕ Mem) = some (.inr e) ∧ cg k e b l2 ∧ offC k m e b := fun l2 h1 h2 h3 => by
      unfold bX0_makeRing_195
      rw [if_pos (o_inb hb (by omega)), o_tn (by omega)]
      refine ⟨_, rfl, ⟨by omega, by rw [mput_at], h2, fun z hz => ?_⟩, fun c z h5 h6 => ?_⟩
      · rw [mput_c _ _ _ (cw_ne (by omega))]
        exact h3 z hz
      · rw [mput_get, if_neg h5]
        exact i4 c z h6
    unfold trimR
    by_cases h1 : 1 < l.length
    · rw [if_neg (by rw [show (1 : Int32) = o32 1 from rfl, o_le (by omega) (by omega)]; omega), if_pos (o_inb hb (by omega))]
      have eb : (o32 b).toNatClampNeg = b := o_tn (by omega)
      match hl : l, h1 with
      | x :: y :: r, h1 =>
        have hx := q16 x List.mem_cons_self
        have r0 : s.2.2 (cw k (9 + (o32 b).toNatClampNeg)) 0 = o32 x := by rw [eb]; exact i3 0 (by simp)
        rw [r0]
        by_cases hx16 : x = 16
        · have hz : (x :: y :: r).getLast (by simp) ≤ 16 := q16 _ (List.getLast_mem _)
          have rz : s.2.2 (cw k (9 + b)) ((x :: y :: r).length - 1) = o32 ((x :: y :: r).getLast (by simp)) := by
            rw [i3 ((x :: y :: r).length - 1) (by simp), List.getLast_eq_getElem]
          have gl : (x :: y :: r).getLast? = some ((x :: y :: r).getLast (by simp)) := List.getLast?_eq_some_getLast (by simp)
          rw [if_pos ((e16 hx).mpr hx16), if_pos (o_inb hb (by omega)), show o32 (x :: y :: r).length - 1 = o32 ((x :: y :: r).length - 1) from o_sub (b := 1) (by omega) (by omega), if_pos (o_inb (by omega) (by omega)), eb, o_tn (by omega), rz, gl]
          by_cases hz16 : (x :: y :: r).getLast (by simp) = 16
          · have hd : (x :: y :: r).dropLast.length = (x :: y :: r).length - 1 := List.length_dropLast
            rw [if_pos ((e16 hz).mpr hz16), if_pos ⟨h1, by rw [List.head?_cons, hx16], by rw [hz16]⟩, less1 (by omega) (by omega), ← hd]
            refine fin _ (by omega) (fun z hz => q16 z (List.dropLast_subset _ hz)) (fun z hz => ?_)
            rw [List.getElem_dropLast]
            exact i3 z (by omega)
          · rw [if_neg (fun q => hz16 ((e16 hz).mp q)), if_neg (fun q => hz16 (Option.some.inj q.2.2))]
            exact fin _ l6 q16 i3
        · rw [if_neg (fun q => hx16 ((e16 hx).mp q)), if_neg (fun q => hx16 (by have := q.2.1; rw [List.head?_cons] at this; exact Option.some.inj this))]
          exact fin _ l6 q16 i3
    · rw [if_pos (by rw [show (1 : Int32) = o32 1 from rfl, o_le (by omega) (by omega)]; omega), if_neg (fun q => h1 q.1)]
      exact fin _ l6 q16 i3
theorem r107a {k : Nat} {m : Mem} {b x w h i t : Nat} {l : List Nat} (hb : b < 16) (hx : x ≤ 16) (hl : l.length < 30) (h16 : ∀ y ∈ l, y ≤ 16) (hr : rcel k m b l) : ∃ m', bX0_makeRing_107a k (o32 b) (o32 w) (o32 h) (o32 i) (o32 l.length) (o32 t) (o32 x) m = some (.inl (o32 (pushR l x).length, o32 (t + 1), m')) ∧ rcel k m' b (pushR l x) ∧ ∀ c j, c ≠ cw k (9 + b) → m' c j = m c j := by
  have app : ∃ m', bX0_makeRing_137a k (o32 b) (o32 w) (o32 h) (o32 i) (o32 l.length) (o32 t) (o32 x) m = some (.inl (o32 (l ++ [x]).length, o32 (t + 1), m')) ∧ rcel k m' b (l ++ [x]) ∧ ∀ c j, c ≠ cw k (9 + b) → m' c j = m c j := by
    unfold bX0_makeRing_137a
    rw [if_pos (o_inb hb (by omega)), if_pos (o_inb hl (by omega)), o_tn (by omega), o_tn (by omega), o_s, o_s, List.length_append, List.length_singleton]
    refine ⟨_, rfl, fun j hj => ?_, fun c j hc => mput_c _ _ _ hc ▸ rfl⟩
    rw [List.length_append, List.length_singleton] at hj
    rw [mput_get, List.getElem_append]
    by_cases e : j = l.length
    · rw [if_pos ⟨rfl, e⟩, dif_neg (by omega)]
      simp [e]
    · rw [if_neg (fun z => e z.2), dif_pos (by omega)]
      exact hr j (by omega)
  unfold bX0_makeRing_107a pushR
  rcases ends l with h0 | ⟨A, z, h0⟩
  · subst h0
    rw [if_pos (by rfl), if_neg (by simp)]
    exact app
  · have hlen : l.length = A.length + 1 := by rw [h0, List.length_append, List.length_singleton]
    rw [if_neg (by rw [show (0 : Int32) = o32 0 from rfl, o_eq (by omega) (by omega)]; omega)]
    by_cases hx16 : x = 16
    · have hz : z ≤ 16 := h16 z (by rw [h0]; exact List.mem_append_right _ List.mem_cons_self)
      have rz : m (cw k (9 + b)) (l.length - 1) = o32 z := by
        have := hr (l.length - 1) (by omega)
        rw [this]
        congr 1
        simp [h0]
      have gl : l.getLast? = some z := by rw [h0]; simp
      rw [if_pos ((e16 hx).mpr hx16), if_pos (o_inb hb (by omega)), show o32 l.length - 1 = o32 (l.length - 1) from o_sub (b := 1) (by omega) (by omega), if_pos (o_inb (by omega) (by omega)), o_tn (by omega), o_tn (by omega), rz, gl]
      by_cases hz16 : z = 16
      · rw [if_pos ((e16 hz).mpr hz16), if_pos ⟨hx16, by rw [hz16]⟩, o_s]
        exact ⟨m, rfl, hr, fun _ _ _ => rfl⟩
      · rw [if_neg (fun q => hz16 ((e16 hz).mp q)), if_neg (fun q => hz16 (Option.some.inj q.2))]
        exact app
    · rw [if_neg (fun q => hx16 ((e16 hx).mp q)), if_neg (fun q => hx16 q.1)]
      exact app
theorem r88a {k : Nat} {x1 x2 x3 x4 x6 x7 rr cc : Int32} {m : Mem} : (if rr < 0 then bX0_makeRing_88a k x1 x2 x3 x4 x6 x7 rr cc 0 m else (if x3 ≤ rr then bX0_makeRing_88a k x1 x2 x3 x4 x6 x7 rr cc 0 m else (if cc < 0 then bX0_makeRing_88a k x1 x2 x3 x4 x6 x7 rr cc 0 m else (if x2 ≤ cc then bX0_makeRing_88a k x1 x2 x3 x4 x6 x7 rr cc 0 m else bX0_makeRing_88a k x1 x2 x3 x4 x6 x7 rr cc 1 m)))) = bX0_makeRing_107a k x1 x2 x3 x4 x6 x7 (pcV x2 x3 rr cc) m := by
  unfold bX0_makeRing_88a pcV
  rw [if_pos rfl, if_neg (show ¬ (1 : Int32) = 0 by decide)]
  by_cases h1 : rr < 0
  · rw [if_pos h1, if_pos h1]
  · rw [if_neg h1, if_neg h1]
    by_cases h2 : x3 ≤ rr
    · rw [if_pos h2, if_pos h2]
    · rw [if_neg h2, if_neg h2]
      by_cases h3 : cc < 0
      · rw [if_pos h3, if_pos h3]
      · rw [if_neg h3, if_neg h3]
        by_cases h4 : x2 ≤ cc
        · rw [if_pos h4, if_pos h4]
        · rw [if_neg h4, if_neg h4]
theorem ringa_c {k : Nat} {m : Mem} {b w h j i : Nat} (hb : b < 16) (hw : w < 5) (hh : h < 5) (hj : j < 4) (hi : i < 4) (hp : j % 2 = 0) (hrow : m (cw k 6) b = o32 j) : ∃ m', lp (lX0_makeRing_29a k (o32 b) (o32 w) (o32 h) (o32 i)) fu (0, 0, m) = some m' ∧ cg k m' b (trimR (ring6 w h j i (i + j % 2))) ∧ offC k m m' b := by
  have p16 := pl_l (w := w) (h := h) (j := j) (i := i) (y := i + j % 2) hw hh hj hi (by omega)
  have key := lp_ix (body := lX0_makeRing_29a k (o32 b) (o32 w) (o32 h) (o32 i)) (fun t s => s.1 = o32 (pfx w h j i t).length ∧ s.2.1 = o32 t ∧ rcel k s.2.2 b (pfx w h j i t) ∧ ∀ c z, c ≠ cw k (9 + b) → s.2.2 c z = m c z) (fun m' => cg k m' b (trimR (ring6 w h j i (i + j % 2))) ∧ offC k m m' b) 6 0 (0, 0, m) fu ⟨rfl, rfl, fun z hz => absurd hz (by simp [pfx]), fun _ _ _ => rfl⟩ (fun t s _ ht hI => ?_) (fun s hI => ?_) (lt_fu (by omega))
  · exact key
  · obtain ⟨i1, i2, i3, i4⟩ := hI
    have ht6 : t < 6 := by omega
    have tb : pcV (o32 w) (o32 h) (o32 j + jcst_0.getD t 0) (o32 i + jcst_2.getD t 0) = o32 (plT w h j i t) := pc_tab 0 (by omega) w hw h hh j hj i hi t ht6 hp
    have t0 : jat jcst_0 (o32 t) = some (jcst_0.getD t 0) := (jc_tab t ht6).1
    have t1 : jat jcst_2 (o32 t) = some (jcst_2.getD t 0) := (jc_tab t ht6).2.2
    have lt := pfx_len w h j i t
    have e6 : s.2.2 (cw k 6) (o32 b).toNatClampNeg = o32 j := by rw [o_tn (by omega), i4 _ _ (cw_ne (by omega))]; exact hrow
    unfold lX0_makeRing_29a
    rw [i2, if_neg (by rw [show (6 : Int32) = o32 6 from rfl, o_le (by omega) (by omega)]; omega), if_pos (o_inb hb (by omega)), t0, t1, Option.bind_some, Option.bind_some, e6, i1, r88a, tb]
    obtain ⟨m', e1, r1, f1⟩ := r107a (w := w) (h := h) (i := i) (t := t) hb (plT_le p16 t ht6) (by omega) (pfx_16 p16 t) i3
    exact ⟨_, e1, by rw [pfx_s w h j i t ht6], rfl, by rw [pfx_s w h j i t ht6]; exact r1, fun c z hc => (f1 c z hc).trans (i4 c z hc)⟩
  · obtain ⟨i1, i2, i3, i4⟩ := hI
    have l6 := pfx_len w h j i (0 + 6)
    have q16 := pfx_16 p16 (0 + 6)
    have e6 : pfx w h j i (0 + 6) = ring6 w h j i (i + j % 2) := rfl
    rw [e6] at l6 q16 i3 i1
    unfold lX0_makeRing_29a
    rw [i2, if_pos (show (6 : Int32) ≤ o32 (0 + 6) by decide), i1]
    generalize ring6 w h j i (i + j % 2) = l at *
    have fin : ∀ l2 : List Nat, l2.length ≤ 6 → (∀ y ∈ l2, y ≤ 16) → rcel k s.2.2 b l2 → ∃ e, (bX0_makeRing_195 k (o32 b) (o32 l2.length) s.2.2).map (Sum.inr : Mem → (Int32 × Int32 × Mem) ⊕ Mem) = some (.inr e) ∧ cg k e b l2 ∧ offC k m e b := fun l2 h1 h2 h3 => by
      unfold bX0_makeRing_195
      rw [if_pos (o_inb hb (by omega)), o_tn (by omega)]
      refine ⟨_, rfl, ⟨by omega, by rw [mput_at], h2, fun z hz => ?_⟩, fun c z h5 h6 => ?_⟩
      · rw [mput_c _ _ _ (cw_ne (by omega))]
        exact h3 z hz
      · rw [mput_get, if_neg h5]
        exact i4 c z h6
    unfold trimR
    by_cases h1 : 1 < l.length
    · rw [if_neg (by rw [show (1 : Int32) = o32 1 from rfl, o_le (by omega) (by omega)]; omega), if_pos (o_inb hb (by omega))]
      have eb : (o32 b).toNatClampNeg = b := o_tn (by omega)
      match hl : l, h1 with
      | x :: y :: r, h1 =>
        have hx := q16 x List.mem_cons_self
        have r0 : s.2.2 (cw k (9 + (o32 b).toNatClampNeg)) 0 = o32 x := by rw [eb]; exact i3 0 (by simp)
        rw [r0]
        by_cases hx16 : x = 16
        · have hz : (x :: y :: r).getLast (by simp) ≤ 16 := q16 _ (List.getLast_mem _)
          have rz : s.2.2 (cw k (9 + b)) ((x :: y :: r).length - 1) = o32 ((x :: y :: r).getLast (by simp)) := by
            rw [i3 ((x :: y :: r).length - 1) (by simp), List.getLast_eq_getElem]
          have gl : (x :: y :: r).getLast? = some ((x :: y :: r).getLast (by simp)) := List.getLast?_eq_some_getLast (by simp)
          rw [if_pos ((e16 hx).mpr hx16), if_pos (o_inb hb (by omega)), show o32 (x :: y :: r).length - 1 = o32 ((x :: y :: r).length - 1) from o_sub (b := 1) (by omega) (by omega), if_pos (o_inb (by omega) (by omega)), eb, o_tn (by omega), rz, gl]
          by_cases hz16 : (x :: y :: r).getLast (by simp) = 16
          · have hd : (x :: y :: r).dropLast.length = (x :: y :: r).length - 1 := List.length_dropLast
            rw [if_pos ((e16 hz).mpr hz16), if_pos ⟨h1, by rw [List.head?_cons, hx16], by rw [hz16]⟩, less1 (by omega) (by omega), ← hd]
            refine fin _ (by omega) (fun z hz => q16 z (List.dropLast_subset _ hz)) (fun z hz => ?_)
            rw [List.getElem_dropLast]
            exact i3 z (by omega)
          · rw [if_neg (fun q => hz16 ((e16 hz).mp q)), if_neg (fun q => hz16 (Option.some.inj q.2.2))]
            exact fin _ l6 q16 i3
        · rw [if_neg (fun q => hx16 ((e16 hx).mp q)), if_neg (fun q => hx16 (by have := q.2.1; rw [List.head?_cons] at this; exact Option.some.inj this))]
          exact fin _ l6 q16 i3
    · rw [if_pos (by rw [show (1 : Int32) = o32 1 from rfl, o_le (by omega) (by omega)]; omega), if_neg (fun q => h1 q.1)]
      exact fin _ l6 q16 i3
end
section
/-! THE CLASS: A NEW FOAM -/
noncomputable def flM (m : Mem) (c n : Nat) (x : Int32) : Mem := fun c' j => if c' = c ∧ j < n then x else m c' j
theorem flM_0 (m : Mem) (c : Nat) (x : Int32) : flM m c 0 x = m := by
  funext c' j
  unfold flM
  rw [if_neg (by omega)]
theorem flM_s (m : Mem) (c n : Nat) (x : Int32) : mput (flM m c n x) c n x = flM m c (n + 1) x := by
  funext c' j
  rw [mput_get]
  unfold flM
  by_cases h1 : c' = c ∧ j = n
  · rw [if_pos h1, if_pos ⟨h1.1, by omega⟩]
  · rw [if_neg h1]
    by_cases h2 : c' = c ∧ j < n
    · rw [if_pos h2, if_pos ⟨h2.1, by omega⟩]
    · rw [if_neg h2, if_neg (by omega)]
theorem fill16 (c : Nat) (x : Int32) (m : Mem) : fJ7_fill_53178_16 c x m = some (flM m c 16 x) := by
  unfold fJ7_fill_53178_16
  have st := lp_fwd (body := lJ7_fill_53178_16_5 c x 16) (e := flM m c 16 x) 16 (fun j => (o32 j, flM m c j x)) fu (fun j hj => ?_) ?_ (lt_fu (by omega))
  · skip
    rw [flM_0] at st
    exact st
  · unfold lJ7_fill_53178_16_5
    dsimp only
    rw [if_neg (not_16 hj), if_pos (o_inb hj (by omega)), o_tn (by omega), o_s, flM_s]
  · unfold lJ7_fill_53178_16_5
    rfl
/-- the class's memory while a new FOAM is laid: the first n BUBBLES stand -/
noncomputable def CJ (k w : Nat) (h : Nat) (g : Int32) (m1 m : Mem) (n : Nat) : Prop := (∃ z, z < 65536 ∧ m (cw k 2) 0 = o32 z ∧ ∀ b, b < 16 → z.testBit b = decide (b < n)) ∧ (∀ b, b < 16 → cg k m b (if b < n then R0 w h b else [])) ∧ (∀ b, b < 16 → b < n → m (cw k 3) b = 0 ∧ m (cw k 4) b = g ∧ m (cw k 5) b = 0 ∧ m (cw k 6) b = o32 (b / w)) ∧ ∀ c j, ¬ (c = cw k 2 ∧ j = 0) → (∀ q, 3 ≤ q → q ≤ 24 → q ≠ 8 → c ≠ cw k q) → m c j = m1 c j
theorem makeRing_c {k : Nat} {m : Mem} {b w h j i : Nat} (hb : b < 16) (hw : w < 5) (hh : h < 5) (hj : j < 4) (hi : i < 4) (hrow : m (cw k 6) b = o32 j) : ∃ m', fX0_makeRing k (o32 b) (o32 w) (o32 h) (o32 i) m = some m' ∧ cg k m' b (trimR (ring6 w h j i (i + j % 2))) ∧ offC k m m' b := by
  unfold fX0_makeRing
  rw [if_pos (o_inb hb (by omega)), o_tn (by omega), hrow]
  by_cases p : j % 2 = 1
  · rw [if_pos ((par4 j hj).mpr p)]
    exact ring_c hb hw hh hj hi p hrow
  · rw [if_neg (fun z => p ((par4 j hj).mp z))]
    exact ringa_c hb hw hh hj hi (by omega) hrow
theorem cj_step {k w h j i : Nat} {g : Int32} {m1 m : Mem} {s : Int32 × Mem} (hw : 1 ≤ w) (hw4 : w ≤ 4) (hh4 : h ≤ 4) (hj : j < h) (hi : i < w) (hs1 : s.1 = o32 i) (hs2 : s.2 = m) (hc : CJ k w h g m1 m (j * w + i)) : ∃ m', lX0_make_40 k (o32 w) (o32 h) g (o32 j) s = some (.inl (o32 (i + 1), m')) ∧ CJ k w h g m1 m' (j * w + (i + 1)) := by
  obtain ⟨⟨z, z1, z2, z3⟩, c2, c3, c4⟩ := hc
  have hjw : j * w ≤ 3 * w := Nat.mul_le_mul_right w (by omega)
  have hn : j * w + i < 16 := by omega
  have dv : (j * w + i) / w = j := by rw [Nat.add_comm, Nat.add_mul_div_right _ _ (by omega), Nat.div_eq_of_lt hi, Nat.zero_add]
  have md : (j * w + i) % w = i := by rw [Nat.add_comm, Nat.add_mul_mod_self_right, Nat.mod_eq_of_lt hi]
  have hR : R0 w h (j * w + i) = trimR (ring6 w h j i (i + j % 2)) := by unfold R0; rw [dv, md]
  unfold lX0_make_40
  have nl : ¬ o32 w ≤ o32 i := fun q => by
    have := (o_le (by omega) (by omega)).mp q
    omega
  rw [hs1, hs2, if_neg nl, o_mul, o_add, if_neg (not_16 hn), if_pos (o_inb hn (by omega)), if_pos (o_inb hn (by omega)), if_pos (o_inb hn (by omega)), if_pos (o_inb hn (by omega)), o_tn (by omega), shl_tab _ (by omega), z2, o_or, o_s]
  generalize hN : j * w + i = n at *
  generalize hM : mput (mput (mput (mput (mput m (cw k 2) 0 (o32 (z ||| 2 ^ n))) (cw k 3) n 0) (cw k 4) n g) (cw k 5) n 0) (cw k 6) n (o32 j) = m2
  have g2 : ∀ c x, m2 c x = if c = cw k 6 ∧ x = n then o32 j else if c = cw k 5 ∧ x = n then 0 else if c = cw k 4 ∧ x = n then g else if c = cw k 3 ∧ x = n then 0 else if c = cw k 2 ∧ x = 0 then o32 (z ||| 2 ^ n) else m c x := fun c x => by
    rw [← hM, mput_get, mput_get, mput_get, mput_get, mput_get]
  obtain ⟨m', e1, r1, o1⟩ := makeRing_c (k := k) (m := m2) (b := n) (w := w) (h := h) (j := j) (i := i) hn (by omega) (by omega) (by omega) (by omega) (by rw [g2, if_pos ⟨rfl, rfl⟩])
  rw [e1, Option.bind_some]
  have far : ∀ q, q ≠ 7 → ∀ x, (∀ b, b < 16 → q ≠ 9 + b) → m' (cw k q) x = m2 (cw k q) x := fun q h1 x h2 => o1 _ _ (fun zz => cw_ne h1 zz.1) (cw_ne (h2 n hn))
  refine ⟨m', rfl, ⟨z ||| 2 ^ n, ?_, ?_, fun b hb => ?_⟩, fun b hb => ?_, fun b hb hbn => ?_, fun c x h1 h2 => ?_⟩
  · exact Nat.or_lt_two_pow (n := 16) z1 (Nat.pow_lt_pow_right (by omega) hn)
  · rw [far 2 (by omega) 0 (fun b _ => by omega), g2, if_neg (fun q => cw_ne (by omega) q.1), if_neg (fun q => cw_ne (by omega) q.1), if_neg (fun q => cw_ne (by omega) q.1), if_neg (fun q => cw_ne (by omega) q.1), if_pos ⟨rfl, rfl⟩]
  · rw [Nat.testBit_or, z3 b hb, Nat.testBit_two_pow]
    by_cases e : b = n
    · rw [decide_eq_true e.symm, Bool.or_true, decide_eq_true (by omega)]
    · by_cases e2 : b < n
      · rw [decide_eq_true e2, Bool.true_or, decide_eq_true (by omega)]
      · rw [decide_eq_false e2, Bool.false_or, show decide (n = b) = false from decide_eq_false (fun q => e q.symm), decide_eq_false (by omega)]
  · by_cases e : b = n
    · subst e
      rw [if_pos (by omega), hR]
      exact r1
    · have q := c2 b hb
      have q2 : cg k m2 b (if b < n then R0 w h b else []) := ⟨q.1, by
        rw [g2, if_neg (fun q => cw_ne (by omega) q.1), if_neg (fun q => cw_ne (by omega) q.1), if_neg (fun q => cw_ne (by omega) q.1), if_neg (fun q => cw_ne (by omega) q.1), if_neg (fun q => cw_ne (by omega) q.1)]
        exact q.2.1, q.2.2.1, fun x hx => by
        rw [g2, if_neg (fun q => cw_ne (by omega) q.1), if_neg (fun q => cw_ne (by omega) q.1), if_neg (fun q => cw_ne (by omega) q.1), if_neg (fun q => cw_ne (by omega) q.1), if_neg (fun q => cw_ne (by omega) q.1)]
        exact q.2.2.2 x hx⟩
      have q3 := cg_off q2 o1 e
      by_cases e2 : b < n
      · rw [if_pos e2] at q3
        rw [if_pos (by omega)]
        exact q3
      · rw [if_neg e2] at q3
        rw [if_neg (by omega)]
        exact q3
  · rw [far 3 (by omega) b (fun b _ => by omega), far 4 (by omega) b (fun b _ => by omega), far 5 (by omega) b (fun b _ => by omega), far 6 (by omega) b (fun b _ => by omega)]
    by_cases e : b = n
    · subst e
      rw [g2, g2, g2, g2, if_neg (fun q => cw_ne (by omega) q.1), if_neg (fun q => cw_ne (by omega) q.1), if_neg (fun q => cw_ne (by omega) q.1), if_pos ⟨rfl, rfl⟩, if_neg (fun q => cw_ne (by omega) q.1), if_neg (fun q => cw_ne (by omega) q.1), if_pos ⟨rfl, rfl⟩, if_neg (fun q => cw_ne (by omega) q.1), if_pos ⟨rfl, rfl⟩, if_pos ⟨rfl, rfl⟩, dv]
      exact ⟨rfl, rfl, rfl, rfl⟩
    · have q := c3 b hb (by omega)
      rw [g2, g2, g2, g2]
      simp only [e, and_false, ↓reduceIte]
      rw [if_neg (fun q => cw_ne (by omega) q.1), if_neg (fun q => cw_ne (by omega) q.1), if_neg (fun q => cw_ne (by omega) q.1), if_neg (fun q => cw_ne (by omega) q.1)]
      exact q
  · rw [o1 _ _ (fun zz => h2 7 (by omega) (by omega) (by omega) zz.1) (h2 (9 + n) (by omega) (by omega) (by omega)), g2, if_neg (fun q => h2 6 (by omega) (by omega) (by omega) q.1), if_neg (fun q => h2 5 (by omega) (by omega) (by omega) q.1), if_neg (fun q => h2 4 (by omega) (by omega) (by omega) q.1), if_neg (fun q => h2 3 (by omega) (by omega) (by omega) q.1), if_neg h1]
    exact c4 c x h1 h2
theorem crow_s {k w h j : Nat} {g : Int32} {m1 m : Mem} (hw : 1 ≤ w) (hw4 : w ≤ 4) (hh4 : h ≤ 4) (hj : j < h) (hc : CJ k w h g m1 m (j * w)) : ∃ m', lX0_make_31 k (o32 w) (o32 h) g (o32 j, m) = some (.inl (o32 (j + 1), m')) ∧ CJ k w h g m1 m' ((j + 1) * w) := by
  have key := lp_ix (body := lX0_make_40 k (o32 w) (o32 h) g (o32 j)) (fun i s => s.1 = o32 i ∧ CJ k w h g m1 s.2 (j * w + i)) (fun e => ∃ m', e = .inl (o32 (j + 1), m') ∧ CJ k w h g m1 m' ((j + 1) * w)) w 0 ((0 : Int32), m) fu ⟨rfl, hc⟩ (fun i s _ h2 hi => ?_) (fun s hi => ?_) (lt_fu (by omega))
  · obtain ⟨e, e1, m', e2, e3⟩ := key
    refine ⟨m', ?_, e3⟩
    unfold lX0_make_31
    dsimp only
    have nl : ¬ o32 h ≤ o32 j := fun z => by
      have := (o_le (by omega) (by omega)).mp z
      omega
    rw [if_neg nl, e1, e2]
  · obtain ⟨s1, s2⟩ := s
    obtain ⟨h1, h3⟩ := hi
    dsimp only at h1 h3
    subst h1
    obtain ⟨m', q1, q2⟩ := cj_step (s := (o32 i, s2)) hw hw4 hh4 hj (by omega) rfl rfl h3
    exact ⟨_, q1, rfl, q2⟩
  · obtain ⟨s1, s2⟩ := s
    obtain ⟨h1, h3⟩ := hi
    dsimp only at h1 h3
    subst h1
    refine ⟨_, ?_, s2, rfl, ?_⟩
    · unfold lX0_make_40
      dsimp only
      rw [if_pos ((o_le (by omega) (by omega)).mpr (by omega)), o_s]
    · rw [show (j + 1) * w = j * w + (0 + w) by rw [Nat.succ_mul]; omega]
      exact h3
/-- what the class's make leaves -/
noncomputable def MakeOut (k w h : Nat) (g : Int32) (m m' : Mem) : Prop := CS k m' (R0 w h) (A0 w h) ∧ (∀ b, b < 16 → b < w * h → m' (cw k 3) b = 0 ∧ m' (cw k 4) b = g ∧ m' (cw k 5) b = 0 ∧ m' (cw k 6) b = o32 (b / w)) ∧ m' (cw k 2) 6 = 0 ∧ m' (cw k 2) 7 = 0 ∧ m' (cw k 2) 8 = 0 ∧ ∀ c j, c ≠ cw k 2 → (∀ q, 3 ≤ q → q ≤ 24 → q ≠ 8 → c ≠ cw k q) → m' c j = m c j
theorem make_c {k : Nat} {m : Mem} {w h : Nat} {g : Int32} (hw : 1 ≤ w) (hw4 : w ≤ 4) (hh : 1 ≤ h) (hh4 : h ≤ 4) : ∃ m', fX0_make k (o32 w) (o32 h) g m = some m' ∧ MakeOut k w h g m m' := by
  unfold fX0_make
  rw [fill16, Option.bind_some]
  generalize hM : flM (mput (mput (mput (mput m (cw k 2) 0 0) (cw k 2) 6 0) (cw k 2) 7 0) (cw k 2) 8 0) (cw k 7) 16 0 = m1
  have g1 : ∀ c j, m1 c j = if c = cw k 7 ∧ j < 16 then 0 else if c = cw k 2 ∧ j = 8 then 0 else if c = cw k 2 ∧ j = 7 then 0 else if c = cw k 2 ∧ j = 6 then 0 else if c = cw k 2 ∧ j = 0 then 0 else m c j := fun c j => by
    rw [← hM]
    unfold flM
    rw [mput_get, mput_get, mput_get, mput_get]
  have e2 : ∀ j, m1 (cw k 2) j = if j = 8 then 0 else if j = 7 then 0 else if j = 6 then 0 else if j = 0 then 0 else m (cw k 2) j := fun j => by
    rw [g1, if_neg (fun q => cw_ne (by omega) q.1)]
    simp only [true_and]
  have st : CJ k w h g m1 m1 (0 * w) := by
    refine ⟨⟨0, by omega, by rw [e2]; rfl, fun b hb => by simp⟩, fun b hb => ?_, fun b hb hbn => absurd hbn (by omega), fun _ _ _ _ => rfl⟩
    rw [if_neg (by omega)]
    exact ⟨by decide, by rw [g1, if_pos ⟨rfl, hb⟩]; rfl, fun y hy => (List.not_mem_nil hy).elim, fun i hi => absurd hi (by simp)⟩
  have key := lp_ix (body := lX0_make_31 k (o32 w) (o32 h) g) (fun j s => s.1 = o32 j ∧ CJ k w h g m1 s.2 (j * w)) (fun m' => CJ k w h g m1 m' (h * w)) h 0 ((0 : Int32), m1) fu ⟨rfl, st⟩ (fun j s _ h2 hi => ?_) (fun s hi => ?_) (lt_fu (by omega))
  · obtain ⟨m', e1, ⟨z, z1, z2, z3⟩, c2, c3, c4⟩ := key
    refine ⟨m', e1, ⟨⟨z, z1, z2, fun b hb => by rw [z3 b hb, Nat.mul_comm]; rfl⟩, fun b hb => ?_⟩, fun b hb hbn => c3 b hb (by rw [Nat.mul_comm]; exact hbn), ?_, ?_, ?_, fun c j h1 h2 => ?_⟩
    · have q := c2 b hb
      unfold A0
      by_cases e : b < w * h
      · rw [if_pos (by rw [Nat.mul_comm]; exact e)] at q
        rw [if_pos (decide_eq_true e)]
        exact q
      · rw [if_neg (by rw [Nat.mul_comm]; exact e)] at q
        rw [if_neg (by rw [decide_eq_false e]; decide)]
        exact q
    · rw [c4 _ _ (by omega) (fun q _ _ _ => cw_ne (by omega)), e2]; rfl
    · rw [c4 _ _ (by omega) (fun q _ _ _ => cw_ne (by omega)), e2]; rfl
    · rw [c4 _ _ (by omega) (fun q _ _ _ => cw_ne (by omega)), e2]; rfl
    · rw [c4 c j (fun q => h1 q.1) h2, g1, if_neg (fun q => h2 7 (by omega) (by omega) (by omega) q.1), if_neg (fun q => h1 q.1), if_neg (fun q => h1 q.1), if_neg (fun q => h1 q.1), if_neg (fun q => h1 q.1)]
  · obtain ⟨s1, s2⟩ := s
    obtain ⟨h1, h3⟩ := hi
    dsimp only at h1 h3
    subst h1
    obtain ⟨m', q1, q2⟩ := crow_s hw hw4 hh4 (by omega) h3
    exact ⟨_, q1, rfl, q2⟩
  · obtain ⟨s1, s2⟩ := s
    obtain ⟨h1, h3⟩ := hi
    dsimp only at h1 h3
    subst h1
    rw [Nat.zero_add] at h3 ⊢
    refine ⟨s2, ?_, h3⟩
    unfold lX0_make_31
    dsimp only
    rw [if_pos ((o_le (by omega) (by omega)).mpr (by omega))]
end

/-! BITS; THE CLASS'S RINGS, READ -/
theorem o_and (a b : Nat) : o32 a &&& o32 b = o32 (a &&& b) := Int32.toBitVec.inj (show BitVec.ofNat 32 a &&& BitVec.ofNat 32 b = BitVec.ofNat 32 (a &&& b) from BitVec.ofNat_and.symm)
theorem o_or (a b : Nat) : o32 a ||| o32 b = o32 (a ||| b) := Int32.toBitVec.inj (show BitVec.ofNat 32 a ||| BitVec.ofNat 32 b = BitVec.ofNat 32 (a ||| b) from BitVec.ofNat_or.symm)
theorem o_xor (a b : Nat) : o32 a ^^^ o32 b = o32 (a ^^^ b) := Int32.toBitVec.inj (show BitVec.ofNat 32 a ^^^ BitVec.ofNat 32 b = BitVec.ofNat 32 (a ^^^ b) from BitVec.ofNat_xor.symm)
theorem sh_tab : ∀ b, b < 32 → ((o32 b).toUInt32 &&& Int32.toUInt32 31).toBitVec % 32 = BitVec.ofNat 32 b := by decide +kernel
theorem o_ushr {a b : Nat} (ha : a < 4294967296) (hb : b < 32) : jUshr (o32 a) (o32 b) = o32 (a >>> b) := by
  apply Int32.toBitVec.inj
  show ((o32 a).toUInt32 >>> ((o32 b).toUInt32 &&& Int32.toUInt32 31)).toBitVec = BitVec.ofNat 32 (a >>> b)
  rw [UInt32.toBitVec_shiftRight]
  have e : ((o32 b).toUInt32 &&& Int32.toUInt32 31).toBitVec % (32 : BitVec 32) = BitVec.ofNat 32 b := sh_tab b hb
  rw [e]
  apply BitVec.eq_of_toNat_eq
  show (BitVec.ofNat 32 a >>> BitVec.ofNat 32 b).toNat = _
  rw [BitVec.ushiftRight_eq', BitVec.toNat_ushiftRight, BitVec.toNat_ofNat, BitVec.toNat_ofNat, BitVec.toNat_ofNat, Nat.mod_eq_of_lt ha, Nat.mod_eq_of_lt (show b < 2 ^ 32 by omega), Nat.mod_eq_of_lt]
  rw [Nat.shiftRight_eq_div_pow]
  exact Nat.lt_of_le_of_lt (Nat.div_le_self _ _) ha
theorem shl_tab : ∀ b, b < 31 → jShl 1 (o32 b) = o32 (2 ^ b) := by decide +kernel
theorem bit1 {n b : Nat} (hn : n < 4294967296) (hb : b < 32) : (jUshr (o32 n) (o32 b)) &&& 1 = if n.testBit b then 1 else 0 := by
  rw [o_ushr hn hb, show (1 : Int32) = o32 1 from rfl, o_and, Nat.and_one_is_mod, Nat.testBit_eq_decide_div_mod_eq, Nat.shiftRight_eq_div_pow]
  rcases Nat.mod_two_eq_zero_or_one (n / 2 ^ b) with h | h <;> rw [h] <;> rfl
theorem not_lt0 {n : Nat} (h : n < 2147483648) : ¬ o32 n < 0 := by
  rw [show (0 : Int32) = o32 0 from rfl, o_lt h (by omega)]
  omega
theorem not_16 {n : Nat} (h : n < 16) : ¬ (16 : Int32) ≤ o32 n := by
  rw [show (16 : Int32) = o32 16 from rfl, o_le (by omega) (by omega)]
  omega
def cg (k : Nat) (m : Mem) (b : Nat) (l : List Nat) : Prop := l.length ≤ 30 ∧ m (cw k 7) b = o32 l.length ∧ (∀ x ∈ l, x ≤ 16) ∧ ∀ i, (h : i < l.length) → m (cw k (9 + b)) i = o32 l[i]
/-- the class's BUBBLES and RINGS -/
def CS (k : Nat) (m : Mem) (r : Nat → List Nat) (al : Nat → Bool) : Prop := (∃ n, n < 65536 ∧ m (cw k 2) 0 = o32 n ∧ ∀ b, b < 16 → n.testBit b = al b) ∧ ∀ b, b < 16 → cg k m b (if al b then r b else [])
theorem CS_g {k : Nat} {m : Mem} {r : Nat → List Nat} {al : Nat → Bool} {b : Nat} (h : CS k m r al) (hb : b < 16) (ha : al b = true) : cg k m b (r b) := by
  have := h.2 b hb
  rw [if_pos ha] at this
  exact this
theorem has_c {k : Nat} {m : Mem} {r : Nat → List Nat} {al : Nat → Bool} {b : Nat} (h : CS k m r al) (hb : b < 16) : fX0_has k (o32 b) m = i01 (al b) := by
  obtain ⟨⟨n, h1, h2, h3⟩, _⟩ := h
  unfold fX0_has
  rw [if_neg (not_lt0 (by omega)), if_neg (not_16 hb), h2, bit1 (by omega) (by omega), h3 b hb]
  cases al b <;> decide
theorem has_any {k : Nat} {m : Mem} {r : Nat → List Nat} {al : Nat → Bool} (h : CS k m r al) (x : Int32) : fX0_has k x m = 0 ∨ ∃ n, n < 16 ∧ x = o32 n ∧ al n = true ∧ fX0_has k x m = 1 := by
  by_cases hx : x < 0
  · left; unfold fX0_has; rw [if_pos hx]
  · by_cases hy : (16 : Int32) ≤ x
    · left; unfold fX0_has; rw [if_neg hx, if_pos hy]
    · have e : ∃ n, n < 16 ∧ x = o32 n := by
        refine ⟨x.toInt.toNat, ?_, ?_⟩
        · rw [Int32.lt_iff_toInt_lt] at hx
          rw [Int32.le_iff_toInt_le] at hy
          have e1 : (16 : Int32).toInt = 16 := by decide
          have e0 : (0 : Int32).toInt = 0 := by decide
          omega
        · apply Int32.toInt_inj.mp
          rw [Int32.lt_iff_toInt_lt] at hx
          rw [Int32.le_iff_toInt_le] at hy
          have e1 : (16 : Int32).toInt = 16 := by decide
          have e0 : (0 : Int32).toInt = 0 := by decide
          rw [o_ti (by omega)]
          omega
      obtain ⟨n, hn, rfl⟩ := e
      rw [has_c h hn]
      cases hal : al n with
      | false => left; rfl
      | true => right; exact ⟨n, hn, rfl, hal, rfl⟩
theorem has_16 {k : Nat} {m : Mem} : fX0_has k 16 m = 0 := rfl
theorem sidesOf_c {k : Nat} {m : Mem} {b : Nat} {l : List Nat} (hb : b < 16) (h : cg k m b l) : fX0_sidesOf k (o32 b) m = some (o32 l.length) := by
  unfold fX0_sidesOf
  rw [if_neg (not_lt0 (by omega)), if_neg (not_16 hb), if_pos (o_inb hb (by omega)), o_tn (by omega), h.2.1]
theorem sidesOf_16 {k : Nat} {m : Mem} : fX0_sidesOf k 16 m = some 0 := rfl
theorem fm_tab : ∀ n, n < 31 → 0 < n → fJ9_floorMod_7cf53 (-1) (o32 n) = some (o32 (n - 1)) ∧ ∀ x, x < 62 → fJ9_floorMod_7cf53 (o32 x) (o32 n) = some (o32 (x % n)) := by decide +kernel
theorem getD_g {l : List Nat} {i : Nat} (h : i < l.length) : l.getD i 0 = l[i] := by
  rw [List.getD_eq_getElem?_getD, List.getElem?_eq_getElem h]
  rfl
theorem at_c {k : Nat} {m : Mem} {b z : Nat} {l : List Nat} (hb : b < 16) (h : cg k m b l) (hl : 0 < l.length) (hz : z < 62) : fX0_at k (o32 b) (o32 z) m = some (o32 (l.getD (z % l.length) 0)) := by
  obtain ⟨h1, h2, h3, h4⟩ := h
  have hm : z % l.length < l.length := Nat.mod_lt _ hl
  unfold fX0_at
  have e7 : m (cw k 7) (o32 b).toNatClampNeg = o32 l.length := by rw [o_tn (by omega)]; exact h2
  rw [if_neg (not_lt0 (by omega)), if_neg (not_16 hb), if_pos (o_inb hb (by omega)), e7]
  rw [if_neg (by rw [show (0 : Int32) = o32 0 from rfl, o_le (by omega) (by omega)]; omega), if_pos (o_inb hb (by omega)), if_pos (by rw [show (30 : Int32) = o32 30 from rfl, o_le (by omega) (by omega)]; omega), if_pos (o_inb hb (by omega)), if_pos (o_inb hb (by omega)), (fm_tab _ (by omega) hl).2 z hz, Option.bind_some, if_pos (o_inb (by omega) (by omega)), o_tn (by omega), o_tn (by omega), h4 _ hm, getD_g hm]
theorem at_cm {k : Nat} {m : Mem} {b : Nat} {l : List Nat} (hb : b < 16) (h : cg k m b l) (hl : 0 < l.length) : fX0_at k (o32 b) (-1) m = some (o32 (l.getD (l.length - 1) 0)) := by
  obtain ⟨h1, h2, h3, h4⟩ := h
  have hm : l.length - 1 < l.length := by omega
  unfold fX0_at
  have e7 : m (cw k 7) (o32 b).toNatClampNeg = o32 l.length := by rw [o_tn (by omega)]; exact h2
  rw [if_neg (not_lt0 (by omega)), if_neg (not_16 hb), if_pos (o_inb hb (by omega)), e7]
  rw [if_neg (by rw [show (0 : Int32) = o32 0 from rfl, o_le (by omega) (by omega)]; omega), if_pos (o_inb hb (by omega)), if_pos (by rw [show (30 : Int32) = o32 30 from rfl, o_le (by omega) (by omega)]; omega), if_pos (o_inb hb (by omega)), if_pos (o_inb hb (by omega)), (fm_tab _ (by omega) hl).1, Option.bind_some, if_pos (o_inb (by omega) (by omega)), o_tn (by omega), o_tn (by omega), h4 _ hm, getD_g hm]
theorem at_ci {k : Nat} {m : Mem} {b z : Nat} {l : List Nat} (hb : b < 16) (h : cg k m b l) (hz : z < l.length) : fX0_at k (o32 b) (o32 z) m = some (o32 l[z]) := by
  have h1 := h.1
  rw [at_c hb h (by omega) (by omega), Nat.mod_eq_of_lt hz, getD_g hz]
theorem plc_hit {l : List Nat} {i x : Nat} (hi : i < l.length) (hx : l[i] = x) (hn : x ∉ l.take i) : plc l x = o32 i := by
  have hm : x ∈ l := hx ▸ List.getElem_mem hi
  rw [plc_in hm]
  congr 1
  have e : l = l.take i ++ l[i] :: l.drop (i + 1) := by rw [← List.drop_eq_getElem_cons hi, List.take_append_drop]
  have e2 : l.idxOf x = (l.take i ++ l[i] :: l.drop (i + 1)).idxOf x := by rw [← e]
  rw [e2, List.idxOf_append, if_neg hn, hx, List.idxOf_cons_self, List.length_take]
  omega
theorem placeOf_c {k : Nat} {m : Mem} {b x : Nat} {l : List Nat} (hb : b < 16) (hx : x ≤ 16) (h : cg k m b l) : fX0_placeOf k (o32 b) (o32 x) m = some (plc l x) := by
  obtain ⟨h1, h2, h3, h4⟩ := h
  unfold fX0_placeOf
  rw [if_neg (not_lt0 (by omega)), if_pos (by rw [show (16 : Int32) = o32 16 from rfl, o_lt (by omega) (by omega)]; omega)]
  obtain ⟨e, he, q⟩ := lp_inv (body := lX0_placeOf_14 k (o32 b) (o32 x) m) (fun s => ∃ i, i ≤ l.length ∧ s = o32 i ∧ x ∉ l.take i) (fun s => 100 - s.toNatClampNeg) (fun e => e = plc l x) (fun s hs => by
    obtain ⟨i, hi, rfl, hn⟩ := hs
    unfold lX0_placeOf_14
    have e7 : m (cw k 7) (o32 b).toNatClampNeg = o32 l.length := by rw [o_tn (by omega)]; exact h2
    rw [if_pos (o_inb hb (by omega)), e7]
    by_cases hil : i = l.length
    · right
      subst hil
      refine ⟨-1, by rw [if_pos (by rw [o_le (by omega) (by omega)]; omega)], ?_⟩
      rw [List.take_length] at hn
      unfold plc
      rw [if_neg hn]
    · have hi2 : i < l.length := by omega
      rw [if_neg (by rw [o_le (by omega) (by omega)]; omega), if_neg (by rw [show (30 : Int32) = o32 30 from rfl, o_le (by omega) (by omega)]; omega), if_pos (o_inb hb (by omega)), if_pos (o_inb (by omega) (by omega)), o_tn (show b < 2147483648 by omega), o_tn (show i < 2147483648 by omega), h4 i hi2]
      have hli := h3 _ (List.getElem_mem hi2)
      by_cases e2 : l[i] = x
      · right
        exact ⟨o32 i, by rw [if_pos (by rw [e2])], (plc_hit hi2 e2 hn).symm⟩
      · left
        refine ⟨o32 (i + 1), by rw [if_neg (by rw [o_eq (by omega) (by omega)]; exact e2), o_s], ⟨i + 1, by omega, rfl, ?_⟩, ?_⟩
        · rw [tk1 hi2]
          intro z
          rcases List.mem_append.mp z with z | z
          · exact hn z
          · exact e2 (List.mem_singleton.mp z).symm
        · rw [o_tn (show i + 1 < 2147483648 by omega)]
          omega) fu 0 ⟨0, by omega, rfl, by simp⟩ (lt_fu (by show 100 - _ < _; omega))
  rw [he, q]
theorem placeOf_16 {k : Nat} {m : Mem} {x : Int32} : fX0_placeOf k 16 x m = some (-1) := rfl
theorem plc_neg {l : List Nat} {x : Nat} (hl : l.length < 1000) : plc l x < 0 ↔ x ∉ l := by
  unfold plc
  by_cases h : x ∈ l
  · have := List.idxOf_lt_length_of_mem h
    rw [if_pos h]
    exact ⟨fun z => absurd z (not_lt0 (by omega)), fun z => absurd h z⟩
  · rw [if_neg h]
    exact ⟨fun _ => h, fun _ => by decide⟩
theorem isWall_c {k : Nat} {m : Mem} {r : Nat → List Nat} {al : Nat → Bool} {a b : Nat} (h : CS k m r al) (ha : a < 16) (hb : b < 16) : fX0_isWall k (o32 a) (o32 b) m = some (i01 (al a && (al b && decide (b ∈ r a)))) := by
  unfold fX0_isWall
  rw [has_c h ha, has_c h hb]
  cases hal : al a with
  | false => rfl
  | true =>
    cases hbl : al b with
    | false => rfl
    | true =>
      have g := CS_g h ha hal
      rw [placeOf_c ha (by omega) g]
      show (if plc (r a) b < 0 then some 0 else some 1) = _
      by_cases hm : b ∈ r a
      · rw [if_neg (fun z => (plc_neg (by have := g.1; omega)).mp z hm), decide_eq_true hm]
        rfl
      · rw [if_pos ((plc_neg (by have := g.1; omega)).mpr hm), decide_eq_false hm]
        rfl
theorem isWall_16 {k : Nat} {m : Mem} {x : Int32} : fX0_isWall k x 16 m = some 0 := by
  unfold fX0_isWall
  rw [has_16, if_pos rfl]
  split <;> rfl
theorem ahead_c {k : Nat} {m : Mem} {b x : Nat} {l : List Nat} (hb : b < 16) (hx : x ≤ 16) (h : cg k m b l) (hm : x ∈ l) : fX0_aheadOf k (o32 b) (o32 x) m = some (o32 (prv l x)) := by
  unfold fX0_aheadOf
  rw [placeOf_c hb hx h, plc_in hm, Option.bind_some]
  have hi := List.idxOf_lt_length_of_mem hm
  have h1 := h.1
  unfold prv
  by_cases h0 : l.idxOf x = 0
  · rw [h0, show (o32 0 - 1 : Int32) = -1 from rfl, at_cm hb h (by omega), Nat.mod_eq_of_lt (by omega), Nat.zero_add]
    rfl
  · rw [show o32 (l.idxOf x) - 1 = o32 (l.idxOf x - 1) from o_sub (b := 1) (by omega) (by omega), at_c hb h (by omega) (by omega), show l.idxOf x + l.length - 1 = (l.idxOf x - 1) + l.length by omega, Nat.add_mod_right]
    rfl
theorem behind_c {k : Nat} {m : Mem} {b x : Nat} {l : List Nat} (hb : b < 16) (hx : x ≤ 16) (h : cg k m b l) (hm : x ∈ l) : fX0_behind k (o32 b) (o32 x) m = some (o32 (nxt l x)) := by
  unfold fX0_behind
  rw [placeOf_c hb hx h, plc_in hm, Option.bind_some]
  have hi := List.idxOf_lt_length_of_mem hm
  have h1 := h.1
  unfold nxt
  rw [o_s, at_c hb h (by omega) (by omega)]
  rfl

/-! BITS, COUNTED -/
def bc1 (n : Nat) : Nat := Nat.sub n (Nat.land (Nat.shiftRight n 1) 1431655765)
def bc2 (n : Nat) : Nat := Nat.add (Nat.land n 858993459) (Nat.land (Nat.shiftRight n 2) 858993459)
def bc3 (n : Nat) : Nat := Nat.land (Nat.add n (Nat.shiftRight n 4)) 252645135
def bc4 (n : Nat) : Nat := Nat.add n (Nat.shiftRight n 8)
def bc5 (n : Nat) : Nat := Nat.add n (Nat.shiftRight n 16)
def bcN (n : Nat) : Nat := Nat.land (bc5 (bc4 (bc3 (bc2 (bc1 n))))) 63
def pcF : Nat → Nat → Nat
  | 0, _ => 0
  | i + 1, n => Nat.add (Nat.mod n 2) (pcF i (Nat.div n 2))
def pc (n : Nat) : Nat := ((List.range 16).map (fun i => if n.testBit i then 1 else 0)).sum
def all256 (f : Nat → Bool) : Nat → Bool
  | 0 => true
  | i + 1 => f i && all256 f i
theorem all256_of {f : Nat → Bool} : ∀ (n : Nat), all256 f n = true → ∀ i, i < n → f i = true
  | 0, _, i, h => absurd h (by omega)
  | n + 1, e, i, h => by
    unfold all256 at e
    rw [Bool.and_eq_true] at e
    by_cases hi : i = n
    · rw [hi]; exact e.1
    · exact all256_of n e.2 i (by omega)
theorem bc_tab : all256 (fun h => all256 (fun l => Nat.beq (bcN (Nat.add (Nat.mul 256 h) l)) (pcF 16 (Nat.add (Nat.mul 256 h) l))) 256) 256 = true := by decide +kernel
theorem bc_ok {n : Nat} (h : n < 65536) : bcN n = pcF 16 n := by
  have e := all256_of 256 (all256_of 256 bc_tab (n / 256) (by omega)) (n % 256) (Nat.mod_lt _ (by omega))
  have e2 : Nat.add (Nat.mul 256 (n / 256)) (n % 256) = n := Nat.div_add_mod n 256
  rw [e2] at e
  exact Nat.eq_of_beq_eq_true e
theorem pcF_s : ∀ (i n : Nat), pcF i n = ((List.range i).map (fun j => if n.testBit j then 1 else 0)).sum
  | 0, _ => rfl
  | i + 1, n => by
    show n % 2 + pcF i (n / 2) = _
    rw [pcF_s i (n / 2), List.range_succ_eq_map, List.map_cons, List.sum_cons, List.map_map]
    have e1 : (if n.testBit 0 then 1 else 0) = n % 2 := by
      rw [Nat.testBit_zero]
      rcases Nat.mod_two_eq_zero_or_one n with h | h <;> rw [h] <;> rfl
    rw [e1]
    congr 2
    apply List.map_congr_left
    intro j _
    show _ = if n.testBit (j + 1) then 1 else 0
    rw [Nat.testBit_add_one]
theorem pc_F (n : Nat) : pcF 16 n = pc n := pcF_s 16 n
theorem ad_le (a b : Nat) : Nat.land a b ≤ a := Nat.and_le_left
theorem sr_le (a b : Nat) : Nat.shiftRight a b ≤ a := Nat.shiftRight_le a b
theorem bitCount_o {n : Nat} (h : n < 65536) : fJ6_bitCount_0f7a4 (o32 n) = o32 (pc n) := by
  rw [← pc_F, ← bc_ok h]
  have b1 : bc1 n ≤ n := Nat.sub_le _ _
  have e1 : o32 n - ((jUshr (o32 n) 1) &&& 1431655765) = o32 (bc1 n) := by
    rw [show jUshr (o32 n) 1 = _ from o_ushr (b := 1) (by omega) (by omega), show o32 (n >>> 1) &&& 1431655765 = _ from o_and _ 1431655765]
    exact o_sub (Nat.le_trans (ad_le _ _) (sr_le _ _)) (by omega)
  have b2 : bc2 (bc1 n) ≤ bc1 n + bc1 n := Nat.add_le_add (ad_le _ _) (Nat.le_trans (ad_le _ _) (sr_le _ _))
  have e2 : (o32 (bc1 n) &&& 858993459) + ((jUshr (o32 (bc1 n)) 2) &&& 858993459) = o32 (bc2 (bc1 n)) := by
    rw [show jUshr (o32 (bc1 n)) 2 = _ from o_ushr (b := 2) (by omega) (by omega), show o32 (bc1 n) &&& 858993459 = _ from o_and _ 858993459, show o32 (bc1 n >>> 2) &&& 858993459 = _ from o_and _ 858993459, o_add]
    rfl
  have b3 : bc3 (bc2 (bc1 n)) ≤ bc2 (bc1 n) + bc2 (bc1 n) := Nat.le_trans (ad_le _ _) (Nat.add_le_add (Nat.le_refl _) (sr_le _ _))
  have e3 : (o32 (bc2 (bc1 n)) + jUshr (o32 (bc2 (bc1 n))) 4) &&& 252645135 = o32 (bc3 (bc2 (bc1 n))) := by
    rw [show jUshr (o32 (bc2 (bc1 n))) 4 = _ from o_ushr (b := 4) (by omega) (by omega), o_add]
    exact o_and _ 252645135
  have b4 : bc4 (bc3 (bc2 (bc1 n))) ≤ bc3 (bc2 (bc1 n)) + bc3 (bc2 (bc1 n)) := Nat.add_le_add (Nat.le_refl _) (sr_le _ _)
  have e4 : o32 (bc3 (bc2 (bc1 n))) + jUshr (o32 (bc3 (bc2 (bc1 n)))) 8 = o32 (bc4 (bc3 (bc2 (bc1 n)))) := by
    rw [show jUshr (o32 (bc3 (bc2 (bc1 n)))) 8 = _ from o_ushr (b := 8) (by omega) (by omega), o_add]
    rfl
  have e5 : o32 (bc4 (bc3 (bc2 (bc1 n)))) + jUshr (o32 (bc4 (bc3 (bc2 (bc1 n))))) 16 = o32 (bc5 (bc4 (bc3 (bc2 (bc1 n))))) := by
    rw [show jUshr (o32 (bc4 (bc3 (bc2 (bc1 n))))) 16 = _ from o_ushr (b := 16) (by omega) (by omega), o_add]
    rfl
  unfold fJ6_bitCount_0f7a4
  rw [e1, e2, e3, e4, e5]
  exact o_and _ 63
theorem pc_of {n : Nat} {p : Nat → Bool} (h : ∀ x, x < 16 → n.testBit x = p x) : pc n = ((List.range 16).map (fun i => if p i then 1 else 0)).sum := by
  unfold pc
  congr 1
  apply List.map_congr_left
  intro j hj
  rw [h j (List.mem_range.mp hj)]
theorem pc_len {n : Nat} {l : List Nat} (h : ∀ x, x < 16 → n.testBit x = decide (x ∈ l)) (h16 : ∀ x ∈ l, x < 16) (hc : ∀ x, l.count x ≤ 1) : pc n = l.length := by
  rw [len_sum l h16, pc_of h]
  congr 1
  apply List.map_congr_left
  intro j _
  by_cases hm : j ∈ l
  · rw [decide_eq_true hm, if_pos rfl]
    have := List.count_pos_iff.mpr hm
    have := hc j
    omega
  · rw [decide_eq_false hm, List.count_eq_zero.mpr hm]
    rfl
theorem pc_le (n : Nat) : pc n ≤ 16 := sum_le1 16 (fun x _ => by split <;> omega)
theorem bits_eq {a b : Nat} (ha : a < 65536) (hb : b < 65536) (h : ∀ x, x < 16 → a.testBit x = b.testBit x) : a = b := by
  apply Nat.eq_of_testBit_eq
  intro x
  by_cases hx : x < 16
  · exact h x hx
  · rw [Nat.testBit_lt_two_pow (Nat.lt_of_lt_of_le ha (Nat.pow_le_pow_right (n := 2) (by omega) (show 16 ≤ x by omega))), Nat.testBit_lt_two_pow (Nat.lt_of_lt_of_le hb (Nat.pow_le_pow_right (n := 2) (by omega) (show 16 ≤ x by omega)))]
theorem set_bit {n x : Nat} (h : n < 65536) (hx : x < 16) : n ||| 2 ^ x < 65536 ∧ ∀ y, (n ||| 2 ^ x).testBit y = (n.testBit y || decide (y = x)) := by
  refine ⟨Nat.or_lt_two_pow (n := 16) h (Nat.pow_lt_pow_right (by omega) hx), fun y => ?_⟩
  rw [Nat.testBit_or, Nat.testBit_two_pow]
  by_cases e : y = x
  · rw [decide_eq_true e, decide_eq_true e.symm]
  · rw [decide_eq_false e, show decide (x = y) = false from decide_eq_false (fun z => e z.symm)]
theorem bitsBeside_c {k : Nat} {m : Mem} {r : Nat → List Nat} {al : Nat → Bool} {b : Nat} (h : CS k m r al) (hg : Gr r al) (hb : b < 16) (alb : al b = true) : ∃ n, n < 65536 ∧ fX0_bitsBeside k (o32 b) m = some (o32 n) ∧ ∀ x, x < 16 → n.testBit x = decide (x ∈ r b) := by
  have g := CS_g h hb alb
  have lb := g.1
  unfold fX0_bitsBeside
  rw [sidesOf_c hb g, Option.bind_some]
  have key := lp_ix (body := lX0_bitsBeside_11 k (o32 b) (o32 (r b).length) m) (fun i s => s.2 = o32 i ∧ ∃ n, n < 65536 ∧ s.1 = o32 n ∧ ∀ x, x < 16 → n.testBit x = decide (x ∈ (r b).take i)) (fun e => ∃ n, n < 65536 ∧ e = o32 n ∧ ∀ x, x < 16 → n.testBit x = decide (x ∈ r b)) (r b).length 0 ((0 : Int32), (0 : Int32)) fu ⟨rfl, 0, by omega, rfl, fun x _ => by simp⟩ (fun i s _ hi hI => ?_) (fun s hI => ?_) (lt_fu (by omega))
  · obtain ⟨e, e1, n, e2, e3, e4⟩ := key
    exact ⟨n, e2, by rw [e1, e3], e4⟩
  · obtain ⟨i1, n, i2, i3, i4⟩ := hI
    have hi : i < (r b).length := by omega
    have px := CS_m (k := k) (m := m) hg hb alb (List.getElem_mem hi)
    unfold lX0_bitsBeside_11
    rw [i1, i3, if_neg (by rw [o_le (by omega) (by omega)]; omega), at_ci hb g hi, Option.bind_some]
    have tk := tk1 hi
    generalize (r b)[i] = x at px tk
    by_cases e : x = 16
    · rw [e, show fX0_has k (o32 16) m = 0 from rfl, if_pos rfl, o_s]
      refine ⟨_, rfl, rfl, n, i2, rfl, fun y hy => ?_⟩
      rw [i4 y hy, tk]
      by_cases hm : y ∈ (r b).take i
      · rw [decide_eq_true hm, decide_eq_true (List.mem_append_left _ hm)]
      · rw [decide_eq_false hm, decide_eq_false (fun z => by
          rcases List.mem_append.mp z with z | z
          · exact hm z
          · have := List.mem_singleton.mp z; omega)]
    · have p2 := px.2 e
      rw [has_c h p2.1, p2.2.1, if_neg (show ¬ i01 true = 0 by decide), shl_tab x (by omega), o_or, o_s]
      have sb := set_bit i2 p2.1
      refine ⟨_, rfl, rfl, _, sb.1, rfl, fun y hy => ?_⟩
      rw [sb.2, i4 y hy, tk]
      by_cases hm : y ∈ (r b).take i
      · rw [decide_eq_true hm, Bool.true_or, decide_eq_true (List.mem_append_left _ hm)]
      · rw [decide_eq_false hm, Bool.false_or]
        by_cases e2 : y = x
        · rw [decide_eq_true e2, decide_eq_true (List.mem_append_right _ (List.mem_singleton.mpr e2))]
        · rw [decide_eq_false e2, decide_eq_false (fun z => by
            rcases List.mem_append.mp z with z | z
            · exact hm z
            · exact e2 (List.mem_singleton.mp z))]
  · obtain ⟨i1, n, i2, i3, i4⟩ := hI
    rw [Nat.zero_add] at i1 i4
    rw [List.take_length] at i4
    unfold lX0_bitsBeside_11
    rw [i1, i3, if_pos (by rw [o_le (by omega) (by omega)]; omega)]
    exact ⟨_, rfl, n, i2, rfl, i4⟩
theorem glasses_c {k : Nat} {m : Mem} {b : Nat} {l : List Nat} (hb : b < 16) (g : cg k m b l) : fX0_glasses k (o32 b) m = some (o32 (l.count 16)) := by
  have lb := g.1
  unfold fX0_glasses
  rw [sidesOf_c hb g, Option.bind_some]
  have e0 : ((0 : Int32), (0 : Int32)) = (o32 ((l.take 0).count 16), o32 0) := by rw [List.take_zero]; rfl
  rw [e0]
  refine lp_fwd (body := lX0_glasses_11 k (o32 b) (o32 l.length) m) l.length (fun i => (o32 ((l.take i).count 16), o32 i)) fu (fun i hi => ?_) ?_ (lt_fu (by omega))
  · have hx := g.2.2.1 _ (List.getElem_mem hi)
    unfold lX0_glasses_11
    dsimp only
    rw [if_neg (by rw [o_le (by omega) (by omega)]; omega), at_ci hb g hi, Option.bind_some, tk1 hi, List.count_append, o_s, o_s]
    by_cases e : l[i] = 16
    · rw [if_pos ((e16 hx).mpr e), e]
      rfl
    · rw [if_neg (fun z => e ((e16 hx).mp z)), List.count_singleton, show (l[i] == 16) = false from by simp [e]]
      rfl
  · unfold lX0_glasses_11
    dsimp only
    rw [if_pos (by rw [o_le (by omega) (by omega)]; omega), List.take_length]
theorem glasses_m {m : Mem} {b : Nat} {l : List Nat} (hb : b < 16) (g : rgAt m b l) : fX9_glassesOf (o32 b) m = some (o32 (l.count 16)) := by
  have lb := g.1
  unfold fX9_glassesOf
  have e0 : ((0 : Int32), (0 : Int32)) = (o32 ((l.take 0).count 16), o32 0) := by rw [List.take_zero]; rfl
  rw [e0]
  refine lp_fwd (body := lX9_glassesOf_4 (o32 b) m) l.length (fun i => (o32 ((l.take i).count 16), o32 i)) fu (fun i hi => ?_) ?_ (lt_fu (by omega))
  · have hx := g.2.2.1 _ (List.getElem_mem hi)
    unfold lX9_glassesOf_4
    dsimp only
    rw [sd_o hb, g.2.1, Option.bind_some, if_neg (by rw [o_le (by omega) (by omega)]; omega), rg_o hb (by omega), Option.bind_some, g.2.2.2 i hi, tk1 hi, List.count_append, o_s, o_s]
    by_cases e : l[i] = 16
    · rw [if_pos ((e16 hx).mpr e), e]
      rfl
    · rw [if_neg (fun z => e ((e16 hx).mp z)), List.count_singleton, show (l[i] == 16) = false from by simp [e], show o32 ((l.take i).count 16) + 0 = _ from o_add _ 0]
      rfl
  · unfold lX9_glassesOf_4
    dsimp only
    rw [sd_o hb, g.2.1, Option.bind_some, if_pos (by rw [o_le (by omega) (by omega)]; omega), List.take_length]

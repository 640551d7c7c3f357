/-! BOTH READERS: NAMES, NUMBERS -/
noncomputable def ixN (z : Nat) (x : Int32) : Option Int32 := if (fJ1_canEncode_9a6ad x) = 0 then some (-1 : Int32) else if (fJ9_max_7cf53 0 0) < (fJ9_min_7cf53 (fJ0_length_8abf5 z) (sLen z)) then lp (lJ1_indexOfChar_4cfef_7 z (fJ9_min_7cf53 (fJ0_length_8abf5 z) (sLen z)) (x.toInt8.toInt32)) 10 (fJ9_max_7cf53 0 0) else some (-1)
theorem ix_of {z : Nat} {x v : Int32} (h : ixN z x = some v) : fJ0_indexOf_0f7a4 z x = some v := by
  unfold ixN at h
  unfold fJ0_indexOf_0f7a4 fJ0_indexOf_7cf53 fJ1_indexOf_4cfef
  rw [if_neg (show ¬ fJ0_isLatin1_aae02 z = 0 from one0)]
  by_cases c1 : (fJ1_canEncode_9a6ad x) = 0
  · rw [if_pos c1] at h ⊢
    rw [h]
    rfl
  · rw [if_neg c1] at h ⊢
    by_cases c2 : (fJ9_max_7cf53 0 0) < (fJ9_min_7cf53 (fJ0_length_8abf5 z) (sLen z))
    · rw [if_pos c2] at h ⊢
      unfold fJ1_indexOfChar_4cfef
      rw [lp_up _ fu _ h (Nat.le_of_lt (lt_fu (by omega)))]
      rfl
    · rw [if_neg c2] at h ⊢
      rw [h]
      rfl
def nmV (u c : Nat) : Int32 := sIxf (o32 c) (jstx (11 + u)) 0
theorem nm_tab : ∀ u, u < 3 → ∀ c, c < 256 → ixN (11 + u) (jI2c (o32 c)) = some (nmV u c) ∧ lp (lX9_nameOf_4 (o32 c) (fun _ _ => o32 u)) 10 (-1, 0) = some (nmV u c) ∧ (nmV u c = -1 ∨ nmV u c = o32 0 ∨ nmV u c = o32 1 ∨ nmV u c = o32 2 ∨ nmV u c = o32 3 ∨ nmV u c = o32 4) := by decide +kernel
theorem name_c {u c : Nat} (hu : u < 3) (hc : c < 256) : fJ0_indexOf_0f7a4 (11 + u) (jI2c (o32 c)) = some (nmV u c) := ix_of (nm_tab u hu c hc).1
theorem name_m {u c : Nat} {m : Mem} (hu : u < 3) (hc : c < 256) (h9 : m 137 9 = o32 u) : fX9_nameOf (o32 c) m = some (nmV u c) := by
  have e : lX9_nameOf_4 (o32 c) m = lX9_nameOf_4 (o32 c) (fun _ _ => o32 u) := by
    funext s
    unfold lX9_nameOf_4
    simp only [h9]
  unfold fX9_nameOf
  rw [e]
  exact lp_up _ fu _ (nm_tab u hu c hc).2.1 (Nat.le_of_lt (lt_fu (by omega)))
theorem nm_5 {u c : Nat} (hu : u < 3) (hc : c < 256) : nmV u c = -1 ∨ ∃ k, k < 5 ∧ nmV u c = o32 k := by
  rcases (nm_tab u hu c hc).2.2 with h | h | h | h | h | h
  · exact .inl h
  · exact .inr ⟨0, by omega, h⟩
  · exact .inr ⟨1, by omega, h⟩
  · exact .inr ⟨2, by omega, h⟩
  · exact .inr ⟨3, by omega, h⟩
  · exact .inr ⟨4, by omega, h⟩
theorem dig_w (x : Int32) : fX2_isDigit x = fX9_within x 48 57 := rfl
theorem bt_cases {u sz : Nat} {B : Nat → Nat} {m0 mr0 : Mem} (X : CX u sz B m0 mr0) (p : Nat) : bt sz B p = -1 ∨ ∃ c, c < 256 ∧ p < sz ∧ bt sz B p = o32 c := by
  unfold bt
  by_cases h : p < sz
  · have := X.2.2.1 p h
    rw [if_pos h]
    exact .inr ⟨B p, by omega, h, rfl⟩
  · rw [if_neg h]
    exact .inl rfl
theorem number_go {u sz o : Nat} {B : Nat → Nat} {m0 mr0 : Mem} {g : Mem → Option Mem} {L : List Nat} (X : CX u sz B m0 mr0) : ∀ d i p v m mr z z', i + d = 4 → 1 ≤ i → v < 10 ^ i → GD sz m0 mr0 o p L m mr → L.length + 1 ≤ p → d < z → d < z' → ∃ m' mr', lp lX2_number_4 z (o32 v, o32 i, m) = some m' ∧ lp (lX9_one_131 g) z' (o32 v, o32 i, mr) = some mr' ∧ ∃ p' w, p ≤ p' ∧ w < 10000 ∧ GD sz m0 mr0 o p' (L ++ [w]) m' mr' := by
  intro d
  induction d with
  | zero =>
    intro i p v m mr z z' hi h1 hv h hl hz hz'
    obtain ⟨z, rfl⟩ : ∃ y, z = y + 1 := ⟨z - 1, by omega⟩
    obtain ⟨z', rfl⟩ : ∃ y, z' = y + 1 := ⟨z' - 1, by omega⟩
    have i4 : i = 4 := by omega
    subst i4
    have hv : v < 10000 := hv
    obtain ⟨m', mr', n1, n2, n3⟩ := note_g (t := v) h X.2.1 hl
    rw [show ctok v = o32 v from if_pos hv] at n1
    refine ⟨m', mr', lp_e ?_, lp_e ?_, p, v, Nat.le_refl _, hv, n3⟩
    · unfold lX2_number_4 bX2_number_48
      dsimp only
      rw [if_pos (show (4 : Int32) ≤ o32 4 by decide), n1]
      rfl
    · unfold lX9_one_131 bX9_one_179
      dsimp only
      rw [if_pos (show (4 : Int32) ≤ o32 4 by decide), n2]
      rfl
  | succ d ih =>
    intro i p v m mr z z' hi h1 hv h hl hz hz'
    obtain ⟨z, rfl⟩ : ∃ y, z = y + 1 := ⟨z - 1, by omega⟩
    obtain ⟨z', rfl⟩ : ∃ y, z' = y + 1 := ⟨z' - 1, by omega⟩
    have n4 : ¬ (4 : Int32) ≤ o32 i := by rw [show (4 : Int32) = o32 4 from rfl, o_le (by omega) (by omega)]; omega
    have hv4 : v < 1000 := Nat.lt_of_lt_of_le hv (by
      have : i ≤ 3 := by omega
      exact Nat.pow_le_pow_right (n := 10) (by omega) this)
    obtain ⟨x1, x2⟩ := nx_g X h
    rcases win (l := 48) (h := 57) (by omega) (by omega) (bt sz B p) with w | ⟨c, c1, c2, c3, c4⟩
    · have w : fX9_within (bt sz B p) 48 57 = 0 := w
      obtain ⟨m', mr', n1, n2, n3⟩ := note_g (t := v) h X.2.1 hl
      rw [show ctok v = o32 v from if_pos (by omega)] at n1
      refine ⟨m', mr', lp_e ?_, lp_e ?_, p, v, Nat.le_refl _, by omega, n3⟩
      · unfold lX2_number_4 bX2_number_48
        dsimp only
        rw [if_neg n4, x1, Option.bind_some, dig_w, if_pos w, n1]
        rfl
      · unfold lX9_one_131 bX9_one_179
        dsimp only
        rw [if_neg n4, x2, Option.bind_some, if_pos w, n2]
        rfl
    · have w : ¬ fX9_within (bt sz B p) 48 57 = 0 := by rw [show fX9_within (bt sz B p) 48 57 = 1 from c4]; exact one0
      have ps : p < sz := by
        have := (bt_255 X (show c < 1000 by omega)).mp c3
        exact this.1
      have ad := adv_g h ps
      have e1 : o32 v * 10 + bt sz B p - 48 = o32 (v * 10 + (c - 48)) := by
        rw [c3, show o32 v * 10 = o32 (v * 10) from o_mul v 10, o_add, show o32 (v * 10 + c) - 48 = o32 (v * 10 + c - 48) from o_sub (b := 48) (by omega) (by omega), show v * 10 + c - 48 = v * 10 + (c - 48) by omega]
      have e2 : 10 * o32 v + bt sz B p - 48 = o32 (v * 10 + (c - 48)) := by
        rw [← e1, Int32.mul_comm]
      have s1 : lX2_number_4 (o32 v, o32 i, m) = some (.inl (o32 (v * 10 + (c - 48)), o32 (i + 1), mput m 118 0 (m 118 0 + 1))) := by
        unfold lX2_number_4
        dsimp only
        rw [if_neg n4, x1, Option.bind_some, dig_w, if_neg w, Option.bind_some, e1, o_s]
      have s2 : lX9_one_131 g (o32 v, o32 i, mr) = some (.inl (o32 (v * 10 + (c - 48)), o32 (i + 1), mput mr 137 7 (o32 (p + 1)))) := by
        unfold lX9_one_131
        dsimp only
        rw [if_neg n4, x2, Option.bind_some, if_neg w, Option.bind_some, e2, o_s, h.2.2.2.1, o_s]
      rw [lp_i s1, lp_i s2]
      obtain ⟨m', mr', r1, r2, p', w', r3, r4, r5⟩ := ih (i + 1) (p + 1) (v * 10 + (c - 48)) _ _ z z' (by omega) (by omega) (by rw [Nat.pow_succ]; omega) ad (by omega) (by omega) (by omega)
      exact ⟨m', mr', r1, r2, p', w', by omega, r4, r5⟩
/-- the first byte is a digit -/
theorem number_R {u sz o p c : Nat} {B : Nat → Nat} {m0 mr0 m mr : Mem} {g : Mem → Option Mem} {L : List Nat} (X : CX u sz B m0 mr0) (h : GD sz m0 mr0 o p L m mr) (hc : bt sz B p = o32 c) (c1 : 48 ≤ c) (c2 : c ≤ 57) : ∃ m' mr', fX2_number m = some m' ∧ lp (lX9_one_131 g) fu (0, 0, mr) = some mr' ∧ ∃ p' w, p + 1 ≤ p' ∧ w < 10000 ∧ GD sz m0 mr0 o p' (L ++ [w]) m' mr' := by
  obtain ⟨x1, x2⟩ := nx_g X h
  have ps : p < sz := ((bt_255 X (show c < 1000 by omega)).mp hc).1
  have w : ¬ fX9_within (bt sz B p) 48 57 = 0 := by
    rw [hc, show fX9_within (o32 c) 48 57 = _ from within_o (l := 48) (h := 57) (by omega) (by omega) (by omega), if_pos ⟨c1, c2⟩]
    exact one0
  have ad := adv_g h ps
  have hl := h.2.2.2.2.2.2.2.1
  have e1 : (0 : Int32) * 10 + bt sz B p - 48 = o32 (c - 48) := by
    rw [hc, show (0 : Int32) * 10 + o32 c = o32 (0 + c) from o_add 0 c, Nat.zero_add]
    exact o_sub (b := 48) (by omega) (by omega)
  have e2 : (10 : Int32) * 0 + bt sz B p - 48 = o32 (c - 48) := e1
  obtain ⟨z, hz⟩ : ∃ y, fu = y + 1 := ⟨fu - 1, by have := lt_fu (n := 1) (by omega); omega⟩
  have z9 : 9 < z := by have := lt_fu (n := 20) (by omega); omega
  have s1 : lX2_number_4 (0, 0, m) = some (.inl (o32 (c - 48), o32 1, mput m 118 0 (m 118 0 + 1))) := by
    unfold lX2_number_4
    dsimp only
    rw [if_neg (by decide), x1, Option.bind_some, dig_w, if_neg w, Option.bind_some, e1]
    rfl
  have s2 : lX9_one_131 g (0, 0, mr) = some (.inl (o32 (c - 48), o32 1, mput mr 137 7 (o32 (p + 1)))) := by
    unfold lX9_one_131
    dsimp only
    rw [if_neg (by decide), x2, Option.bind_some, if_neg w, Option.bind_some, e2, h.2.2.2.1, o_s]
    rfl
  unfold fX2_number
  rw [hz, lp_i s1, lp_i s2]
  exact number_go X 3 1 (p + 1) (c - 48) _ _ z z (by omega) (by omega) (by omega) ad (by omega) (by omega) (by omega)
noncomputable def NT : Nat → Mem → Option Mem
  | 0, m => some m
  | n + 1, m => (fX2_note (fX5_ofSign 33) m).bind (NT n)
theorem nots_c {e : Int32 → Mem → Option Mem} (b : Nat) (hb : b < 1000) : ∀ n a m z, a + n = b → n < z → lp (lX2_single_146 e (o32 b)) z (o32 a, m) = NT n m := by
  intro n
  induction n with
  | zero =>
    intro a m z ha hz
    obtain ⟨z, rfl⟩ : ∃ y, z = y + 1 := ⟨z - 1, by omega⟩
    refine lp_e ?_
    unfold lX2_single_146
    dsimp only
    rw [if_pos (by rw [o_le (by omega) (by omega)]; omega)]
  | succ n ih =>
    intro a m z ha hz
    obtain ⟨z, rfl⟩ : ∃ y, z = y + 1 := ⟨z - 1, by omega⟩
    show _ = (fX2_note (fX5_ofSign 33) m).bind (NT n)
    cases hn : fX2_note (fX5_ofSign 33) m with
    | none =>
      have : lX2_single_146 e (o32 b) (o32 a, m) = none := by
        unfold lX2_single_146
        dsimp only
        rw [if_neg (by rw [o_le (by omega) (by omega)]; omega), hn]
        rfl
      unfold lp
      rw [this]
      rfl
    | some m' =>
      have s1 : lX2_single_146 e (o32 b) (o32 a, m) = some (.inl (o32 (a + 1), m')) := by
        unfold lX2_single_146
        dsimp only
        rw [if_neg (by rw [o_le (by omega) (by omega)]; omega), hn, Option.bind_some, o_s]
      rw [lp_i s1]
      exact ih (a + 1) m' z (by omega) (by omega)

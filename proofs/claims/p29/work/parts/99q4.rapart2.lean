/-! APART: BOTH ANSWER ALIKE -/
theorem bt_0 {n i x : Nat} (h : n < 2 ^ i) (hx : i ≤ x) : n.testBit x = false := Nat.testBit_lt_two_pow (Nat.lt_of_lt_of_le h (Nat.pow_le_pow_right (n := 2) (by omega) hx))
theorem bt_16 {n x : Nat} (h : n < 65536) (hx : n.testBit x = true) : x < 16 := by
  refine Classical.byContradiction fun c => ?_
  rw [bt_0 (i := 16) h (by omega)] at hx
  exact absurd hx (by decide)
theorem nt_bit {n b x : Nat} (hx : x < 32) : (n &&& (b ^^^ 4294967295)).testBit x = (n.testBit x && !b.testBit x) := by
  rw [Nat.testBit_and, Nat.testBit_xor, show (4294967295 : Nat) = 2 ^ 32 - 1 by decide, Nat.testBit_two_pow_sub_one, decide_eq_true hx, Bool.xor_true]
theorem and_p0 {M j : Nat} (h : M.testBit j = false) : M &&& 2 ^ j = 0 := Nat.eq_of_testBit_eq fun x => by
  rw [Nat.testBit_and, Nat.testBit_two_pow, Nat.zero_testBit]
  by_cases e : j = x
  · rw [← e, h]; rfl
  · rw [decide_eq_false e, Bool.and_false]
theorem and_p1 {M j : Nat} (h : M.testBit j = true) : ¬ M &&& 2 ^ j = 0 := fun e => by
  have k : (M &&& 2 ^ j).testBit j = true := by rw [Nat.testBit_and, h, Nat.testBit_two_pow_self]; rfl
  rw [e, Nat.zero_testBit] at k
  exact absurd k (by decide)
theorem clr_lt {M j : Nat} (hj : j < 32) (hM : M < 2 ^ (j + 1)) : M &&& (2 ^ j ^^^ 4294967295) < 2 ^ j := by
  refine Nat.lt_pow_two_of_testBit _ fun x hx => ?_
  by_cases h : x < 32
  · rw [clr_bit h]
    by_cases e : x = j
    · rw [decide_eq_true e]
      simp
    · rw [bt_0 hM (by omega)]
      rfl
  · by_cases e : x = j
    · omega
    · rw [Nat.testBit_and, bt_0 hM (by omega)]
      rfl
/-- no two of the set stand side by side -/
noncomputable def Ind (B : Nat → Nat) (c : Nat) : Prop := ∀ a, a < 16 → c.testBit a = true → ∀ x, x < 16 → c.testBit x = true → (B a).testBit x = false
noncomputable def sbs (c M : Nat) : Prop := ∀ x, c.testBit x = true → M.testBit x = true
/-- the largest such set, the least of these -/
noncomputable def Opt (B : Nat → Nat) (M v : Nat) : Prop := v < 65536 ∧ Ind B v ∧ sbs v M ∧ ∀ c, c < 65536 → Ind B c → sbs c M → pc c < pc v ∨ (pc c = pc v ∧ v ≤ c)
theorem Opt_u {B : Nat → Nat} {M v w : Nat} (h : Opt B M v) (g : Opt B M w) : v = w := by
  have e1 := h.2.2.2 w g.1 g.2.1 g.2.2.1
  have e2 := g.2.2.2 v h.1 h.2.1 h.2.2.1
  omega
theorem Ind_0 (B : Nat → Nat) : Ind B 0 := fun a _ h => by
  rw [Nat.zero_testBit] at h
  exact absurd h (by decide)
theorem sbs_0 (n : Nat) : sbs 0 n := fun a h => by
  rw [Nat.zero_testBit] at h
  exact absurd h (by decide)
theorem Opt_0 (B : Nat → Nat) : Opt B 0 0 := ⟨by omega, Ind_0 B, fun _ h => h, fun c _ _ hs => .inr (by
  have e : c = 0 := Nat.le_zero.mp (Nat.le_of_testBit hs)
  rw [e]
  exact ⟨rfl, Nat.le_refl _⟩)⟩
theorem Ind_and {B : Nat → Nat} {c : Nat} (hc : c < 65536) : (∀ a, a < 16 → c.testBit a = true → B a &&& c = 0) ↔ Ind B c := by
  constructor
  · intro h a ha hca x hx hcx
    have e : (B a &&& c).testBit x = false := by rw [h a ha hca, Nat.zero_testBit]
    rw [Nat.testBit_and, hcx, Bool.and_true] at e
    exact e
  · intro h a ha hca
    apply Nat.eq_of_testBit_eq
    intro x
    rw [Nat.testBit_and, Nat.zero_testBit]
    cases e : c.testBit x with
    | false => rw [Bool.and_false]
    | true => rw [h a ha hca x (bt_16 hc e) e]; rfl
theorem Opt_s {B : Nat → Nat} {j M v1 v3 : Nat} (hj : j < 16) (hM : M < 2 ^ (j + 1)) (hb : M.testBit j = true) (sym : ∀ a x, a < 16 → x < 16 → (B a).testBit x = (B x).testBit a) (irr : (B j).testBit j = false) (o1 : Opt B (M &&& (2 ^ j ^^^ 4294967295)) v1) (l1 : v1 < 2 ^ j) (o3 : Opt B ((M &&& (2 ^ j ^^^ 4294967295)) &&& (B j ^^^ 4294967295)) v3) (l3 : v3 < 2 ^ j) : Opt B M (if pc (v3 ||| 2 ^ j) ≤ pc v1 then v1 else v3 ||| 2 ^ j) := by
  have v3j : v3.testBit j = false := bt_0 l3 (Nat.le_refl _)
  have sb := set_bit o3.1 hj
  have pw : pc (v3 ||| 2 ^ j) = pc v3 + 1 := pc_add hj v3j
  have ad := Nat.or_two_pow_eq_add_of_lt l3
  have nb : ∀ x, v3.testBit x = true → M.testBit x = true ∧ (B j).testBit x = false := fun x hx => by
    have h := o3.2.2.1 x hx
    have x16 := bt_16 o3.1 hx
    rw [nt_bit (by omega), clr_bit (by omega)] at h
    rw [Bool.and_eq_true, Bool.and_eq_true] at h
    refine ⟨h.1.1, ?_⟩
    have h2 := h.2
    cases e : (B j).testBit x with
    | false => rfl
    | true => rw [e] at h2; exact absurd h2 (by decide)
  have wb : ∀ x, (v3 ||| 2 ^ j).testBit x = true → v3.testBit x = true ∨ x = j := fun x hx => by
    rw [sb.2, Bool.or_eq_true] at hx
    rcases hx with hx | hx
    · exact .inl hx
    · exact .inr (of_decide_eq_true hx)
  have wi : Ind B (v3 ||| 2 ^ j) := fun a ha hca x hx hcx => by
    rcases wb a hca with ea | ea
    · rcases wb x hcx with ex | ex
      · exact o3.2.1 a ha ea x hx ex
      · rw [ex, sym a j ha hj]
        exact (nb a ea).2
    · rcases wb x hcx with ex | ex
      · rw [ea]
        exact (nb x ex).2
      · rw [ea, ex]
        exact irr
  have ws : sbs (v3 ||| 2 ^ j) M := fun x hx => by
    rcases wb x hx with e | e
    · exact (nb x e).1
    · rw [e]
      exact hb
  have v1s : sbs v1 M := fun x hx => by
    have h := o1.2.2.1 x hx
    rw [Nat.testBit_and, Bool.and_eq_true] at h
    exact h.1
  have key : ∀ c, c < 65536 → Ind B c → sbs c M → (pc c < pc v1 ∨ (pc c = pc v1 ∧ v1 ≤ c)) ∨ (2 ^ j ≤ c ∧ (pc c < pc (v3 ||| 2 ^ j) ∨ (pc c = pc (v3 ||| 2 ^ j) ∧ v3 ||| 2 ^ j ≤ c))) := fun c hc ic sc => by
    cases cj : c.testBit j with
    | false =>
      left
      refine o1.2.2.2 c hc ic (fun x hx => ?_)
      rw [clr_bit (by have := bt_16 hc hx; omega), sc x hx, decide_eq_false (fun e => by rw [e, cj] at hx; exact absurd hx (by decide))]
      rfl
    | true =>
      right
      have cl : c < 2 ^ (j + 1) := Nat.lt_of_le_of_lt (Nat.le_of_testBit sc) hM
      have l' := clr_lt (by omega) cl
      have b' : ∀ x, (c &&& (2 ^ j ^^^ 4294967295)).testBit x = true → c.testBit x = true ∧ x ≠ j := fun x hx => by
        have h := hx
        rw [Nat.testBit_and, Bool.and_eq_true] at h
        have x16 := bt_16 hc h.1
        rw [clr_bit (by omega), Bool.and_eq_true] at hx
        refine ⟨h.1, fun e => ?_⟩
        have h2 := hx.2
        rw [decide_eq_true e] at h2
        exact absurd h2 (by decide)
      have e : c = (c &&& (2 ^ j ^^^ 4294967295)) ||| 2 ^ j := by
        refine bits_eq hc (set_bit (Nat.lt_of_le_of_lt Nat.and_le_left hc) hj).1 fun x hx => ?_
        rw [(set_bit (Nat.lt_of_le_of_lt Nat.and_le_left hc) hj).2, clr_bit (by omega)]
        by_cases z : x = j
        · rw [z, cj, decide_eq_true rfl]
          rfl
        · rw [decide_eq_false z]
          simp
      have h3 := o3.2.2.2 (c &&& (2 ^ j ^^^ 4294967295)) (Nat.lt_of_le_of_lt Nat.and_le_left hc) (fun a ha hca x hx hcx => ic a ha (b' a hca).1 x hx (b' x hcx).1) (fun x hx => by
        have hx' := b' x hx
        have x16 := bt_16 hc hx'.1
        rw [nt_bit (by omega), clr_bit (by omega), sc x hx'.1, decide_eq_false hx'.2, ic j hj cj x x16 hx'.1]
        rfl)
      have pe : pc c = pc (c &&& (2 ^ j ^^^ 4294967295)) + 1 := by
        have p := pc_add hj (bt_0 l' (Nat.le_refl _))
        rw [← e] at p
        exact p
      have ae := Nat.or_two_pow_eq_add_of_lt l'
      rw [← e] at ae
      generalize c &&& (2 ^ j ^^^ 4294967295) = c' at *
      omega
  by_cases q : pc (v3 ||| 2 ^ j) ≤ pc v1
  · rw [if_pos q]
    refine ⟨o1.1, o1.2.1, v1s, fun c hc ic sc => ?_⟩
    have := key c hc ic sc
    omega
  · rw [if_neg q]
    refine ⟨sb.1, wi, ws, fun c hc ic sc => ?_⟩
    have := key c hc ic sc
    omega
theorem apart_a {m : Mem} {B : Nat → Nat} (hB : ∀ a, a < 16 → B a < 65536 ∧ m 123 a = o32 (B a)) (sym : ∀ a x, a < 16 → x < 16 → (B a).testBit x = (B x).testBit a) (irr : ∀ a, a < 16 → (B a).testBit a = false) : ∀ n i M, i + 1 ≤ n → i ≤ 16 → M < 2 ^ i → ∃ v, nX3_apartIn_16 n (o32 M) (o32 i - 1) 123 m = some (o32 v) ∧ v < 2 ^ i ∧ Opt B M v := by
  intro n
  induction n with
  | zero => intro i M h; omega
  | succ n ih =>
    intro i M h h16 hM
    show ∃ v, fX3_apartIn_16 (nX3_apartIn_16 n) (o32 M) (o32 i - 1) 123 m = some (o32 v) ∧ _
    unfold fX3_apartIn_16
    have pi : 2 ^ i ≤ 2 ^ 16 := Nat.pow_le_pow_right (n := 2) (by omega) h16
    have M16 : M < 65536 := Nat.lt_of_lt_of_le hM pi
    by_cases x0 : M = 0
    · rw [x0, if_pos (show o32 0 = 0 from rfl)]
      exact ⟨0, rfl, by rw [x0] at hM; exact hM, Opt_0 B⟩
    rw [if_neg (show ¬ o32 M = 0 from fun e => x0 ((o_eq (b := 0) (by omega) (by omega)).mp e))]
    obtain ⟨i, rfl⟩ : ∃ y, i = y + 1 := ⟨i - 1, by
      by_cases z : i = 0
      · rw [z] at hM
        omega
      · omega⟩
    have e : o32 (i + 1) - 1 = o32 i := by
      rw [show o32 (i + 1) - 1 = o32 (i + 1 - 1) from o_sub (b := 1) (by omega) (by omega), Nat.add_sub_cancel]
    have l16 : o32 i < 16 := by rw [show (16 : Int32) = o32 16 from rfl, o_lt (by omega) (by omega)]; omega
    have p2 : 2 ^ (i + 1) = 2 * 2 ^ i := by rw [Nat.pow_succ]; omega
    have p16 : 2 ^ i < 65536 := by have : (2 : Nat) ^ 16 = 65536 := by decide
                                   omega
    obtain ⟨v1, a1, b1, c1⟩ := ih i (M &&& (2 ^ i ^^^ 4294967295)) (by omega) (by omega) (clr_lt (by omega) hM)
    have hi : i < 16 := by omega
    rw [e, if_neg (not_lt0 (by omega)), if_pos l16, shl_tab i (by omega), show (-1 : Int32) = o32 4294967295 by decide, o_xor (2 ^ i), o_and M (2 ^ i ^^^ 4294967295), a1, Option.bind_some, o_and M (2 ^ i)]
    cases hb : M.testBit i with
    | false =>
      rw [if_pos (show o32 (M &&& 2 ^ i) = 0 by rw [and_p0 hb]; rfl)]
      have eM : M &&& (2 ^ i ^^^ 4294967295) = M := bits_eq (Nat.lt_of_le_of_lt Nat.and_le_left M16) M16 fun x hx => by
        rw [clr_bit (by omega)]
        by_cases z : x = i
        · rw [z, hb]; rfl
        · rw [decide_eq_false z]; simp
      rw [eM] at c1
      exact ⟨v1, rfl, by omega, c1⟩
    | true =>
      have ml := Nat.and_le_left (n := M) (m := 2 ^ i)
      rw [if_neg (show ¬ o32 (M &&& 2 ^ i) = 0 from fun z => and_p1 hb ((o_eq (b := 0) (by omega) (by omega)).mp z)), if_pos (o_inb hi (by omega)), o_tn (by omega), (hB i hi).2, o_xor (B i), o_and _ (B i ^^^ 4294967295)]
      obtain ⟨v3, a3, b3, c3⟩ := ih i ((M &&& (2 ^ i ^^^ 4294967295)) &&& (B i ^^^ 4294967295)) (by omega) (by omega) (Nat.lt_of_le_of_lt Nat.and_le_left (clr_lt (by omega) hM))
      have sb := set_bit c3.1 hi
      have os := Opt_s hi hM hb sym (irr i hi) c1 b1 c3 b3
      have p1 := pc_le v1
      have p3 := pc_le (v3 ||| 2 ^ i)
      have wl : v3 ||| 2 ^ i < 2 ^ (i + 1) := by rw [Nat.or_two_pow_eq_add_of_lt b3]; omega
      rw [a3, Option.bind_some, o_or, bitCount_o sb.1, bitCount_o c1.1]
      by_cases q : pc (v3 ||| 2 ^ i) ≤ pc v1
      · rw [if_pos ((o_le (by omega) (by omega)).mpr q)]
        rw [if_pos q] at os
        exact ⟨v1, rfl, by omega, os⟩
      · rw [if_neg (fun z => q ((o_le (by omega) (by omega)).mp z))]
        rw [if_neg q] at os
        exact ⟨_, rfl, wl, os⟩
theorem ap100a {x1 x2 x3 : Int32} {c : Nat} {m : Mem} {B : Nat → Nat} (hc : c < 65536) (hB : ∀ a, a < 16 → B a < 65536 ∧ m 149 a = o32 (B a)) (fl : Int32) (hf : fl = 0 ∨ fl = 1) : ∃ e, lp (lX9_apart_100 x1 x2 x3 (o32 c) m) fu (fl, 0) = some e ∧ ∃ y, e = .inl (y, o32 c + 1) ∧ ((fl = 1 ∧ Ind B c ∧ y = o32 c) ∨ (¬ (fl = 1 ∧ Ind B c) ∧ y = x3)) := by
  refine lp_inv (fun s => ∃ j, j ≤ 16 ∧ s.2 = o32 j ∧ ((s.1 = 1 ∧ fl = 1 ∧ ∀ a, a < j → c.testBit a = true → B a &&& c = 0) ∨ (s.1 = 0 ∧ ¬ (fl = 1 ∧ Ind B c)))) (fun s => 100 - s.2.toNatClampNeg) _ (fun s hI => ?_) fu (fl, 0) ⟨0, by omega, rfl, ?_⟩ (lt_fu (by show 100 - _ < _; omega))
  · obtain ⟨j, j1, j2, j3⟩ := hI
    have x0 : s.1 = 0 → ¬ (fl = 1 ∧ Ind B c) → ∃ e, (bX9_apart_148 x1 x2 x3 (o32 c) s.1 m).map (Sum.inr : _ → (Int32 × Int32) ⊕ ((Int32 × Int32) ⊕ (Int32 × Mem))) = some (.inr e) ∧ ∃ y, e = .inl (y, o32 c + 1) ∧ ((fl = 1 ∧ Ind B c ∧ y = o32 c) ∨ (¬ (fl = 1 ∧ Ind B c) ∧ y = x3)) := fun h1 h2 => by
      unfold bX9_apart_148
      rw [h1, if_pos rfl]
      exact ⟨_, rfl, _, rfl, .inr ⟨h2, rfl⟩⟩
    unfold lX9_apart_100
    rw [j2]
    by_cases c16 : j = 16
    · right
      rw [if_pos (show (16 : Int32) ≤ o32 j by rw [c16]; decide)]
      rcases j3 with ⟨e1, e2, e3⟩ | ⟨e1, e2⟩
      · unfold bX9_apart_148
        rw [e1, if_neg one0]
        exact ⟨_, rfl, _, rfl, .inl ⟨e2, (Ind_and hc).mp (fun a ha => e3 a (by omega)), rfl⟩⟩
      · exact x0 e1 e2
    · rw [if_neg (not_16 (by omega))]
      have hj : j < 16 := by omega
      rcases j3 with ⟨e1, e2, e3⟩ | ⟨e1, e2⟩
      · left
        have st : ∀ v : Int32, ((v = 1 ∧ fl = 1 ∧ ∀ a, a < j + 1 → c.testBit a = true → B a &&& c = 0) ∨ (v = 0 ∧ ¬ (fl = 1 ∧ Ind B c))) → ∃ s', (some (.inl (v, o32 (j + 1))) : Option ((Int32 × Int32) ⊕ ((Int32 × Int32) ⊕ (Int32 × Mem)))) = some (.inl s') ∧ (∃ j, j ≤ 16 ∧ s'.2 = o32 j ∧ ((s'.1 = 1 ∧ fl = 1 ∧ ∀ a, a < j → c.testBit a = true → B a &&& c = 0) ∨ (s'.1 = 0 ∧ ¬ (fl = 1 ∧ Ind B c)))) ∧ 100 - s'.2.toNatClampNeg < 100 - (o32 j).toNatClampNeg := fun v hv => ⟨_, rfl, ⟨j + 1, by omega, rfl, hv⟩, by rw [o_tn (show j < 2147483648 by omega), show ((v, o32 (j + 1)) : Int32 × Int32).2 = o32 (j + 1) from rfl, o_tn (show j + 1 < 2147483648 by omega)]; omega⟩
        rw [e1, if_neg one0, has_bit hc hj, o_s]
        cases cb : c.testBit j with
        | false =>
          rw [if_pos (show i01 false = 0 by decide)]
          refine st 1 (.inl ⟨rfl, e2, fun a ha hb => ?_⟩)
          by_cases z : a = j
          · rw [z, cb] at hb
            exact absurd hb (by decide)
          · exact e3 a (by omega) hb
        | true =>
          rw [if_neg (show ¬ i01 true = 0 by decide), if_pos (o_inb hj (by omega)), o_tn (show j < 2147483648 by omega), (hB j hj).2, o_and]
          by_cases z : B j &&& c = 0
          · rw [if_pos (show o32 (B j &&& c) = 0 by rw [z]; rfl)]
            have s1 := st 1 (.inl ⟨rfl, e2, fun a ha hb => by
              by_cases w : a = j
              · rw [w]; exact z
              · exact e3 a (by omega) hb⟩)
            rw [o_tn (show j < 2147483648 by omega)] at s1
            exact s1
          · have ml := Nat.and_le_right (n := B j) (m := c)
            rw [if_neg (show ¬ o32 (B j &&& c) = 0 from fun w => z ((o_eq (b := 0) (by omega) (by omega)).mp w))]
            have s1 := st 0 (.inr ⟨rfl, fun w => z ((Ind_and hc).mpr w.2 j hj cb)⟩)
            rw [o_tn (show j < 2147483648 by omega)] at s1
            exact s1
      · right
        rw [if_pos e1]
        exact x0 e1 e2
  · rcases hf with hf | hf
    · exact .inr ⟨hf, fun z => by rw [hf] at z; exact absurd z.1 (by decide)⟩
    · exact .inl ⟨hf, hf, fun a ha => absurd ha (by omega)⟩
theorem ap63a {x1 : Int32} {n : Nat} {m : Mem} {B : Nat → Nat} (hn : n < 65536) (hB : ∀ a, a < 16 → B a < 65536 ∧ m 149 a = o32 (B a)) : ∃ e, lp (lX9_apart_63 x1 (o32 n) m) fu (0, 1) = some e ∧ ∃ v, Opt B n v ∧ e = ((if x1 = 0 then o32 (pc v) else o32 v), m) := by
  refine lp_inv (fun s => ∃ b c, b < c ∧ c ≤ n + 1 ∧ s.1 = o32 b ∧ s.2 = o32 c ∧ Ind B b ∧ sbs b n ∧ ∀ d, d < c → Ind B d → sbs d n → pc d < pc b ∨ (pc d = pc b ∧ b ≤ d)) (fun s => 65537 - s.2.toNatClampNeg) _ (fun s hI => ?_) fu (0, 1) ⟨0, 1, by omega, by omega, rfl, rfl, Ind_0 B, sbs_0 n, fun d hd _ _ => .inr (by
    have e : d = 0 := by omega
    rw [e]
    exact ⟨rfl, Nat.le_refl _⟩)⟩ (lt_fu (by show 65537 - _ < _; omega))
  obtain ⟨b, c, bc, c1, i1, i2, ib, sb, hd⟩ := hI
  unfold lX9_apart_63
  rw [i1, i2]
  by_cases g : c = n + 1
  · right
    rw [if_pos (by rw [o_lt (by omega) (by omega)]; omega), bits_s (show b < 65536 by omega), Option.bind_some]
    have ee : (if x1 = 0 then (some (Sum.inr (o32 (pc b), m)) : Option ((Int32 × Int32) ⊕ (Int32 × Mem))) else some (Sum.inr (o32 b, m))) = some (Sum.inr ((if x1 = 0 then o32 (pc b) else o32 b), m)) := by
      by_cases z : x1 = 0
      · rw [if_pos z, if_pos z]
      · rw [if_neg z, if_neg z]
    refine ⟨((if x1 = 0 then o32 (pc b) else o32 b), m), ee, b, ⟨by omega, ib, sb, fun d _ id sd => hd d (by have := Nat.le_of_testBit sd; omega) id sd⟩, rfl⟩
  · left
    have nl : ¬ o32 n < o32 c := by rw [o_lt (by omega) (by omega)]; omega
    have c16 : c < 65536 := by omega
    have st : ∀ fl : Int32, (fl = 0 ∨ fl = 1) → (fl = 1 ↔ sbs c n ∧ pc b < pc c) → ∃ s', lp (lX9_apart_100 x1 (o32 n) (o32 b) (o32 c) m) fu (fl, 0) = some (.inl s') ∧ (∃ b c, b < c ∧ c ≤ n + 1 ∧ s'.1 = o32 b ∧ s'.2 = o32 c ∧ Ind B b ∧ sbs b n ∧ ∀ d, d < c → Ind B d → sbs d n → pc d < pc b ∨ (pc d = pc b ∧ b ≤ d)) ∧ 65537 - s'.2.toNatClampNeg < 65537 - (o32 c).toNatClampNeg := fun fl hf hg => by
      obtain ⟨e, e1, y, e2, e3⟩ := ap100a (x1 := x1) (x2 := o32 n) (x3 := o32 b) (m := m) c16 hB fl hf
      have mu : ∀ y : Int32, 65537 - ((y, o32 c + 1) : Int32 × Int32).2.toNatClampNeg < 65537 - (o32 c).toNatClampNeg := fun y => by
        rw [show ((y, o32 c + 1) : Int32 × Int32).2 = o32 (c + 1) from o_s c, o_tn (show c + 1 < 2147483648 by omega), o_tn (show c < 2147483648 by omega)]
        omega
      refine ⟨(y, o32 c + 1), by rw [e1, e2], ?_, mu y⟩
      rcases e3 with ⟨f1, f2, f3⟩ | ⟨f1, f2⟩
      · obtain ⟨g1, g2⟩ := hg.mp f1
        refine ⟨c, c + 1, by omega, by omega, f3, o_s c, f2, g1, fun d dd id sd => ?_⟩
        by_cases z : d = c
        · rw [z]
          exact .inr ⟨rfl, Nat.le_refl _⟩
        · have := hd d (by omega) id sd
          left
          omega
      · refine ⟨b, c + 1, by omega, by omega, f2, o_s c, ib, sb, fun d dd id sd => ?_⟩
        by_cases z : d = c
        · rw [z] at id sd ⊢
          have nf : ¬ fl = 1 := fun w => f1 ⟨w, id⟩
          have np : ¬ pc b < pc c := fun w => nf (hg.mpr ⟨sd, w⟩)
          omega
        · exact hd d (by omega) id sd
    rw [if_neg nl, bits_s c16, bits_s (show b < 65536 by omega), Option.bind_some, Option.bind_some, show (-1 : Int32) = o32 4294967295 by decide, o_xor, o_and]
    have ml := Nat.and_le_left (n := c) (m := n ^^^ 4294967295)
    by_cases z : c &&& (n ^^^ 4294967295) = 0
    · have hs : sbs c n := fun x hx => by
        have x16 := bt_16 c16 hx
        have e : (c &&& (n ^^^ 4294967295)).testBit x = false := by rw [z, Nat.zero_testBit]
        rw [nt_bit (by omega), hx, Bool.true_and] at e
        cases w : n.testBit x with
        | true => rfl
        | false => rw [w] at e; exact absurd e (by decide)
      rw [if_pos (show o32 (c &&& (n ^^^ 4294967295)) = 0 by rw [z]; rfl)]
      have p1 := pc_le b
      have p2 := pc_le c
      by_cases q : pc c ≤ pc b
      · rw [if_pos ((o_le (by omega) (by omega)).mpr q)]
        exact st 0 (.inl rfl) ⟨fun w => absurd w (by decide), fun w => by omega⟩
      · rw [if_neg (fun w => q ((o_le (by omega) (by omega)).mp w))]
        exact st 1 (.inr rfl) ⟨fun _ => ⟨hs, by omega⟩, fun _ => rfl⟩
    · rw [if_neg (show ¬ o32 (c &&& (n ^^^ 4294967295)) = 0 from fun w => z ((o_eq (b := 0) (by omega) (by omega)).mp w))]
      refine st 0 (.inl rfl) ⟨fun w => absurd w (by decide), fun w => absurd ?_ z⟩
      apply Nat.eq_of_testBit_eq
      intro x
      rw [Nat.zero_testBit]
      cases h : c.testBit x with
      | false => rw [Nat.testBit_and, h]; rfl
      | true => rw [nt_bit (by have := bt_16 c16 h; omega), w.1 x h, Bool.not_true, Bool.and_false]
theorem NB_sym {r : Nat → List Nat} {al : Nat → Bool} (hg : Gr r al) : (∀ a x, a < 16 → x < 16 → (NB r al a).testBit x = (NB r al x).testBit a) ∧ ∀ a, a < 16 → (NB r al a).testBit a = false := by
  have one : ∀ a x, a < 16 → x < 16 → (NB r al a).testBit x = true → (NB r al x).testBit a = true ∧ x ≠ a := fun a x ha hx h => by
    rw [(NB_s r al a).2, decide_eq_true hx, Bool.true_and, Bool.and_eq_true] at h
    obtain ⟨h1, h2⟩ := h
    have k := (hg.1 a ha h1 x (of_decide_eq_true h2)).2 (by omega)
    rw [(NB_s r al x).2, decide_eq_true ha, k.1, decide_eq_true k.2.2]
    exact ⟨rfl, k.2.1⟩
  refine ⟨fun a x ha hx => ?_, fun a ha => ?_⟩
  · cases h : (NB r al a).testBit x with
    | true => rw [(one a x ha hx h).1]
    | false =>
      cases h2 : (NB r al x).testBit a with
      | false => rfl
      | true => rw [(one x a hx ha h2).1] at h; exact absurd h (by decide)
  · cases h : (NB r al a).testBit a with
    | false => rfl
    | true => exact absurd rfl (one a a ha ha h).2
theorem apart_s {mc mr : Mem} (h : RLx mc mr) (x : Int32) : Sm (fX8_apart x mc) (fX9_apart x mr) := by
  have hh := h
  obtain ⟨⟨r, al, f, q, w⟩, _⟩ := h
  have hg := WS_1 w
  unfold fX8_apart fX9_apart
  rw [wi_eq]
  by_cases z : fX9_within x 0 1 = 0
  · rw [if_pos z, if_pos z]
    exact err1 hh
  rw [if_neg z, if_neg z]
  obtain ⟨m1, k1, k2, k3, k4⟩ := look_c (WS_4 w) hg
  obtain ⟨nM, u1, u2, u3⟩ := (WS_4 w).1
  obtain ⟨sy, ir⟩ := NB_sym hg
  obtain ⟨v, hv, _, ov⟩ := apart_a (m := m1) (B := NB r al) (fun a ha => ⟨(NB_s r al a).1, k4 a ha⟩) sy ir 18 16 nM (by omega) (by omega) u1
  have hv : nX3_apartIn_16 18 (m1 121 3) 15 123 m1 = some (o32 v) := by rw [k3, u2]; exact hv
  have A : ((fX3_look 0 mc).bind fun q3 => (fX3_mostApart q3).bind fun q4 => (if x = 0 then some ((fJ6_bitCount_0f7a4 q4), q3) else some (q4, q3))) = some ((if x = 0 then o32 (pc v) else o32 v), m1) := by
    unfold fX3_mostApart
    rw [k1, Option.bind_some, hv, Option.bind_some, Option.bind_some, bitCount_o ov.1]
    by_cases e : x = 0
    · rw [if_pos e, if_pos e]
    · rw [if_neg e, if_neg e]
  obtain ⟨n, n1, n2, n3⟩ := there_s (WS_3 w)
  have en : n = nM := bits_eq n1 u1 fun y hy => by rw [n3 y hy, u3 y hy]
  have B : ∃ mr1, lp (lX9_apart_23 x (o32 n)) fu (0, mr) = some ((if x = 0 then o32 (pc v) else o32 v), mr1) ∧ ∀ c j, c ≠ 149 → mr1 c j = mr c j := by
    have key := lp_ix (body := lX9_apart_23 x (o32 n)) (fun i s => s.1 = o32 i ∧ (∀ c j, c ≠ 149 → s.2 c j = mr c j) ∧ ∀ a, a < i → s.2 149 a = o32 (NB r al a)) (fun e => ∃ mr1 : Mem, e = ((if x = 0 then o32 (pc v) else o32 v), mr1) ∧ ∀ c j, c ≠ 149 → mr1 c j = mr c j) 16 0 (0, mr) fu ⟨rfl, fun _ _ _ => rfl, fun a ha => absurd ha (by omega)⟩ (fun i s _ hi hI => ?_) (fun s hI => ?_) (lt_fu (by omega))
    · obtain ⟨e, e1, mr1, e2, e3⟩ := key
      exact ⟨mr1, by rw [e1, e2], e3⟩
    · obtain ⟨i1, i2, i3⟩ := hI
      have hs : RS s.2 r al := RS_same (WS_3 w) (fun j _ _ => i2 138 j (by omega))
      have fin : ∀ y : Int32, y = o32 (NB r al i) → ∃ s', bX9_apart_51 x (o32 n) (o32 i) (o32 i) y s.2 = some (.inl s') ∧ s'.1 = o32 (i + 1) ∧ (∀ c j, c ≠ 149 → s'.2 c j = mr c j) ∧ ∀ a, a < i + 1 → s'.2 149 a = o32 (NB r al a) := fun y hy => by
        unfold bX9_apart_51
        rw [if_pos (o_inb (by omega) (by omega)), o_s, o_tn (by omega)]
        refine ⟨_, rfl, rfl, fun c j hc => by dsimp only; rw [mput_c _ _ _ hc]; exact i2 c j hc, fun a ha => ?_⟩
        dsimp only
        rw [mput_get]
        by_cases e : a = i
        · rw [if_pos ⟨rfl, e⟩, e]
          exact hy
        · rw [if_neg (fun z => e z.2)]
          exact i3 a (by omega)
      unfold lX9_apart_23
      rw [i1, if_neg (not_16 (by omega)), is_s (by omega) hs, Option.bind_some]
      cases ala : al i with
      | false =>
        rw [if_pos (show i01 false = 0 by decide)]
        exact fin _ (by rw [NB_0 ala]; rfl)
      | true =>
        rw [if_neg (show ¬ i01 true = 0 by decide), beside_mN hs hg (by omega) ala, Option.bind_some]
        exact fin _ rfl
    · obtain ⟨i1, i2, i3⟩ := hI
      obtain ⟨e, e1, v', e2, e3⟩ := ap63a (x1 := x) (m := s.2) (B := NB r al) n1 (fun a ha => ⟨(NB_s r al a).1, i3 a (by omega)⟩)
      have ev : v' = v := by rw [en] at e2; exact Opt_u e2 ov
      unfold lX9_apart_23
      rw [i1, if_pos (show (16 : Int32) ≤ o32 (0 + 16) by decide), e1, e3, ev]
      exact ⟨_, rfl, s.2, rfl, i2⟩
  obtain ⟨mr1, e2, e3⟩ := B
  rw [n2, Option.bind_some]
  exact ⟨_, m1, mr1, A, e2, RL_look hh (fun a j ha => k2 a j (by omega) (by omega)) (fun a j ha => e3 a j (by omega))⟩

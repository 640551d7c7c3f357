/-! COLOUR: BOTH ANSWER ALIKE, THE PROGRAMS -/
theorem rg_all (p : Nat → Bool) (t : Nat) : (List.range (t + 1)).all p = ((List.range t).all p && p t) := by
  rw [List.range_succ, List.all_append, List.all_cons, List.all_nil, Bool.and_true]
noncomputable def ANb (r : Nat → List Nat) (al : Nat → Bool) : Nat → Nat → Bool := fun a b => (NB r al a).testBit b
theorem mayBe_a {mr : Mem} {r : Nat → List Nat} {al : Nat → Bool} {i j : Nat} {col : Nat → Nat} (h : RS mr r al) (hi : i < 16) (ali : al i = true) (hj : j < 100) (hc : ∀ b, b < i → al b = true → col b < 100 ∧ mr 148 b = o32 (col b)) : fX9_mayBe (o32 i) (o32 j) mr = some (i01 (oqc al (ANb r al) i j col)) := by
  unfold fX9_mayBe oqc
  generalize hp : (fun b => !(al b && (ANb r al i b && decide (col b = j)))) = p
  have ps : ∀ b, p b = !(al b && (ANb r al i b && decide (col b = j))) := fun b => by rw [← hp]
  have key := lp_ix (body := lX9_mayBe_5 (o32 i) (o32 j) mr) (fun t s => s.2 = o32 t ∧ s.1 = i01 ((List.range t).all p)) (fun e => e = i01 ((List.range i).all p)) i 0 (1, 0) fu ⟨rfl, rfl⟩ (fun t s _ ht hI => ?_) (fun s hI => ?_) (lt_fu (by omega))
  · obtain ⟨e, e1, e2⟩ := key
    rw [e1, e2]
  · obtain ⟨s1, s2⟩ := s
    obtain ⟨i1, i2⟩ := hI
    have i1 : s2 = o32 t := i1
    have i2 : s1 = i01 ((List.range t).all p) := i2
    have ht : t < i := by omega
    have h16 : t < 16 := by omega
    subst i1
    subst i2
    have fin : ∀ v : Int32, v = i01 ((List.range (t + 1)).all p) → ∃ s', (some (.inl (v, o32 t + 1)) : Option ((Int32 × Int32) ⊕ Int32)) = some (.inl s') ∧ s'.2 = o32 (t + 1) ∧ s'.1 = i01 ((List.range (t + 1)).all p) := fun v hv => ⟨_, rfl, o_s t, hv⟩
    unfold lX9_mayBe_5
    dsimp only
    rw [if_neg (show ¬ o32 i ≤ o32 t by rw [o_le (by omega) (by omega)]; omega), is_s h16 h, Option.bind_some, isWall_s hi (by omega) ((h i hi).2 ali), Option.bind_some, if_pos (o_inb h16 (by omega)), o_tn (show t < 2147483648 by omega)]
    have at1 : ANb r al i t = decide (t ∈ r i) := by
      unfold ANb
      rw [(NB_s r al i).2, decide_eq_true h16, ali]
      rfl
    cases ea : (List.range t).all p with
    | false =>
      rw [if_pos (show i01 false = 0 by decide)]
      exact fin 0 (by rw [rg_all, ea]; rfl)
    | true =>
      rw [if_neg (show ¬ i01 true = 0 by decide)]
      cases et : al t with
      | false =>
        rw [if_pos (show i01 false = 0 by decide)]
        exact fin 1 (by rw [rg_all, ea, ps, et]; rfl)
      | true =>
        rw [if_neg (show ¬ i01 true = 0 by decide)]
        by_cases em : t ∈ r i
        · rw [if_pos em, if_neg one0, (hc t ht et).2]
          by_cases e : col t = j
          · rw [if_pos (show o32 (col t) = o32 j by rw [e])]
            exact fin 0 (by rw [rg_all, ea, ps, et, at1, decide_eq_true em, decide_eq_true e]; rfl)
          · have l1 := (hc t ht et).1
            rw [if_neg (fun z => e ((o_eq (by omega) (by omega)).mp z))]
            exact fin 1 (by rw [rg_all, ea, ps, et, at1, decide_eq_true em, decide_eq_false e]; rfl)
        · rw [if_neg em, if_pos rfl]
          exact fin 1 (by rw [rg_all, ea, ps, et, at1, decide_eq_false em]; rfl)
  · obtain ⟨i1, i2⟩ := hI
    unfold lX9_mayBe_5
    rw [Nat.zero_add] at i1 i2
    have hb : s.1 = 0 ∨ s.1 = 1 := by
      rw [i2]
      cases (List.range i).all p with
      | false => exact .inl rfl
      | true => exact .inr rfl
    rw [i1, if_pos (Int32.le_refl _), if_pos hb]
    exact ⟨_, rfl, i2⟩
theorem coloured_F {mr : Mem} {r : Nat → List Nat} {al : Nat → Bool} {n : Nat} (hs : RS mr r al) (hn : n < 100) : ∀ N k i m col, i + k = 16 → k + 1 ≤ N → (∀ c j, c ≠ 148 → m c j = mr c j) → (∀ b, b < i → al b = true → col b < 100 ∧ m 148 b = o32 (col b)) → ∃ v m', nX9_coloured N (o32 i) (o32 n) m = some (v, m') ∧ (∀ c j, c ≠ 148 → m' c j = mr c j) ∧ ((srF al (ANb r al) n k col = none ∧ v = 0 ∧ ∀ b, b < i → m' 148 b = m 148 b) ∨ ∃ c', srF al (ANb r al) n k col = some c' ∧ v = 1 ∧ ∀ b, b < 16 → al b = true → m' 148 b = o32 (c' b)) := by
  intro N
  induction N with
  | zero => intro k i m col h h1; omega
  | succ N ih =>
    intro k i m col hik hN hm hc
    have hS : ∀ M : Mem, (∀ c j, c ≠ 148 → M c j = mr c j) → RS M r al := fun M h => RS_same hs (fun j _ _ => h 138 j (by omega))
    show ∃ v m', fX9_coloured (nX9_coloured N) (o32 i) (o32 n) m = some (v, m') ∧ _
    unfold fX9_coloured
    by_cases c : i = 16
    · have k0 : k = 0 := by omega
      subst k0
      rw [if_pos (show o32 i = 16 by rw [c]; rfl)]
      exact ⟨_, _, rfl, hm, .inr ⟨col, rfl, rfl, fun b hb hl => (hc b (by omega) hl).2⟩⟩
    · obtain ⟨k, rfl⟩ : ∃ y, k = y + 1 := ⟨k - 1, by omega⟩
      have e15 : 15 - k = i := by omega
      have hi : i < 16 := by omega
      have ne : ¬ o32 i = 16 := fun e => c ((o_eq (b := 16) (by omega) (by omega)).mp e)
      rw [if_neg ne, is_s hi (hS m hm), Option.bind_some, srF_S, e15]
      cases ala : al i with
      | false =>
        have nb : ∀ b, al b = true → b ≠ i := fun b hl e => by
          rw [e, ala] at hl
          exact absurd hl (by decide)
        obtain ⟨v, m', e1, e2, e3⟩ := ih k (i + 1) m col (by omega) (by omega) hm (fun b hb hl => hc b (by have := nb b hl; omega) hl)
        rw [if_pos (show i01 false = 0 by decide), o_s, e1, Option.bind_some, if_neg (show ¬ false = true by decide)]
        rcases e3 with ⟨a1, a2, a3⟩ | ⟨c', a1, a2, a3⟩
        · rw [if_pos (show v = 0 ∨ v = 1 from .inl a2)]
          exact ⟨v, m', rfl, e2, .inl ⟨a1, a2, fun b hb => a3 b (by omega)⟩⟩
        · rw [if_pos (show v = 0 ∨ v = 1 from .inr a2)]
          exact ⟨v, m', rfl, e2, .inr ⟨c', a1, a2, a3⟩⟩
      | true =>
        rw [if_neg (show ¬ i01 true = 0 by decide), if_pos (show true = true from rfl)]
        generalize hf : (fun s => if oqc al (ANb r al) i s col = true then srF al (ANb r al) n k (updC col i s) else none) = f
        have fs : ∀ s, f s = if oqc al (ANb r al) i s col = true then srF al (ANb r al) n k (updC col i s) else none := fun s => by rw [← hf]
        have key := lp_inv (body := lX9_coloured_27 (nX9_coloured N) (o32 i) (o32 n)) (fun s => ∃ j, j ≤ n ∧ s.1 = o32 j ∧ (∀ c j, c ≠ 148 → s.2 c j = mr c j) ∧ (∀ b, b < i → s.2 148 b = m 148 b) ∧ fsT f n 0 = fsT f (n - j) j) (fun s => 200 - s.1.toNatClampNeg) (fun e => (∀ c j, c ≠ 148 → e.2 c j = mr c j) ∧ ((fsT f n 0 = none ∧ e.1 = 0 ∧ ∀ b, b < i → e.2 148 b = m 148 b) ∨ ∃ c', fsT f n 0 = some c' ∧ e.1 = 1 ∧ ∀ b, b < 16 → al b = true → e.2 148 b = o32 (c' b))) (fun s hI => ?_) fu (0, m) ⟨0, by omega, rfl, hm, fun _ _ => rfl, rfl⟩ (lt_fu (by show 200 - _ < _; omega))
        · obtain ⟨e, e1, e2, e3⟩ := key
          exact ⟨e.1, e.2, e1, e2, e3⟩
        · obtain ⟨s1, S⟩ := s
          obtain ⟨j, j1, j2, hP, hb, hF⟩ := hI
          have j2 : s1 = o32 j := j2
          subst j2
          have hP : ∀ c j, c ≠ 148 → S c j = mr c j := hP
          have hb : ∀ b, b < i → S 148 b = m 148 b := hb
          by_cases g : j = n
          · right
            refine ⟨((0 : Int32), S), ?_, hP, .inl ⟨by rw [hF, g, Nat.sub_self]; rfl, rfl, hb⟩⟩
            unfold lX9_coloured_27
            rw [if_pos (show o32 n ≤ o32 j by rw [g]; exact Int32.le_refl _)]
          · have ng : ¬ o32 n ≤ o32 j := by rw [o_le (by omega) (by omega)]; omega
            have hF : fsT f n 0 = (f j).or (fsT f (n - (j + 1)) (j + 1)) := by rw [hF, show n - j = (n - (j + 1)) + 1 by omega]; rfl
            have st : ∀ M : Mem, lX9_coloured_27 (nX9_coloured N) (o32 i) (o32 n) (o32 j, S) = some (.inl (o32 j + 1, M)) → (∀ c j, c ≠ 148 → M c j = mr c j) → (∀ b, b < i → M 148 b = m 148 b) → f j = none → ∃ s', lX9_coloured_27 (nX9_coloured N) (o32 i) (o32 n) (o32 j, S) = some (.inl s') ∧ (∃ j, j ≤ n ∧ s'.1 = o32 j ∧ (∀ c j, c ≠ 148 → s'.2 c j = mr c j) ∧ (∀ b, b < i → s'.2 148 b = m 148 b) ∧ fsT f n 0 = fsT f (n - j) j) ∧ 200 - s'.1.toNatClampNeg < 200 - (o32 j).toNatClampNeg := fun M h0 h1 h2 h3 => ⟨(o32 j + 1, M), h0, ⟨j + 1, by omega, o_s j, h1, h2, by rw [hF, h3]; rfl⟩, by rw [show ((o32 j + 1, M) : Int32 × Mem).1 = o32 (j + 1) from o_s j, o_tn (show j + 1 < 2147483648 by omega), o_tn (show j < 2147483648 by omega)]; omega⟩
            have mb := mayBe_a (hS S hP) hi ala (show j < 100 by omega) (fun b hb' hl => ⟨(hc b hb' hl).1, by rw [hb b hb']; exact (hc b hb' hl).2⟩)
            cases ok : oqc al (ANb r al) i j col with
            | false =>
              left
              refine st S ?_ hP hb (by rw [fs, ok, if_neg (show ¬ false = true by decide)])
              unfold lX9_coloured_27
              rw [if_neg ng]
              dsimp only
              rw [mb, ok, Option.bind_some, if_pos (show i01 false = 0 by decide)]
            | true =>
              obtain ⟨v, m', e1, e2, e3⟩ := ih k (i + 1) (mput S 148 i (o32 j)) (updC col i j) (by omega) (by omega) (fun c j hc => by rw [mput_c _ _ _ hc]; exact hP c j hc) (fun b hb' hl => by
                unfold updC
                by_cases e : b = i
                · rw [if_pos e, e, mput_at]
                  exact ⟨by omega, rfl⟩
                · rw [if_neg e, mput_j _ _ _ _ e, hb b (by omega)]
                  exact hc b (by omega) hl)
              have bd : lX9_coloured_27 (nX9_coloured N) (o32 i) (o32 n) (o32 j, S) = if v = 0 then some (.inl (o32 j + 1, m')) else some (.inr (1, m')) := by
                unfold lX9_coloured_27
                rw [if_neg ng]
                dsimp only
                rw [mb, ok, Option.bind_some, if_neg (show ¬ i01 true = 0 by decide), if_pos (o_inb hi (by omega)), o_tn (show i < 2147483648 by omega), o_s i, e1, Option.bind_some]
              rcases e3 with ⟨a1, a2, a3⟩ | ⟨c', a1, a2, a3⟩
              · left
                refine st m' (by rw [bd, if_pos a2]) e2 (fun b hb' => ?_) (by rw [fs, ok, if_pos (show true = true from rfl)]; exact a1)
                rw [a3 b (by omega), mput_j _ _ _ _ (show b ≠ i by omega)]
                exact hb b hb'
              · right
                refine ⟨((1 : Int32), m'), by rw [bd, if_neg (show ¬ v = 0 by rw [a2]; decide)], e2, .inr ⟨c', ?_, rfl, a3⟩⟩
                rw [hF, fs, ok, if_pos (show true = true from rfl), a1]
                rfl
noncomputable def MKc (al : Nat → Bool) (col : Nat → Nat) (i s : Nat) : Nat := mkb (fun b => decide (b < i) && (al b && decide (col b = s))) 16
theorem MKc_s (al : Nat → Bool) (col : Nat → Nat) (i s : Nat) : MKc al col i s < 65536 ∧ ∀ x, (MKc al col i s).testBit x = (decide (x < 16) && (decide (x < i) && (al x && decide (col x = s)))) := mkb_s _ 16 (Nat.le_refl _)
theorem MK_dead {al : Nat → Bool} {col : Nat → Nat} {i s : Nat} (ha : al i = false) : MKc al col (i + 1) s = MKc al col i s := bits_eq (MKc_s al col (i + 1) s).1 (MKc_s al col i s).1 fun x hx => by
  rw [(MKc_s al col (i + 1) s).2, (MKc_s al col i s).2]
  by_cases e : x = i
  · rw [e, ha]
    simp
  · rw [show decide (x < i + 1) = decide (x < i) from decide_eq_decide.mpr (by omega)]
theorem MK_up {al : Nat → Bool} {col : Nat → Nat} {i j : Nat} (hi : i < 16) (ha : al i = true) : MKc al (updC col i j) (i + 1) j = MKc al col i j ||| 2 ^ i := bits_eq (MKc_s al (updC col i j) (i + 1) j).1 (set_bit (MKc_s al col i j).1 hi).1 fun x hx => by
  rw [(MKc_s al (updC col i j) (i + 1) j).2, (set_bit (MKc_s al col i j).1 hi).2, (MKc_s al col i j).2]
  unfold updC
  by_cases e : x = i
  · rw [if_pos e, e, ha, decide_eq_true hi, decide_eq_true (show i < i + 1 by omega), decide_eq_true (show j = j from rfl), decide_eq_true (show i = i from rfl), Bool.or_true]
    rfl
  · rw [if_neg e, decide_eq_false e, Bool.or_false, show decide (x < i + 1) = decide (x < i) from decide_eq_decide.mpr (by omega)]
theorem MK_ne {al : Nat → Bool} {col : Nat → Nat} {i j s : Nat} (hs : s ≠ j) : MKc al (updC col i j) (i + 1) s = MKc al col i s := bits_eq (MKc_s al (updC col i j) (i + 1) s).1 (MKc_s al col i s).1 fun x hx => by
  rw [(MKc_s al (updC col i j) (i + 1) s).2, (MKc_s al col i s).2]
  unfold updC
  by_cases e : x = i
  · rw [if_pos e, e, decide_eq_false (show ¬ j = s from fun z => hs z.symm), decide_eq_false (show ¬ i < i by omega), Bool.and_false, Bool.and_false, Bool.false_and]
  · rw [if_neg e, show decide (x < i + 1) = decide (x < i) from decide_eq_decide.mpr (by omega)]
theorem MK_dn {al : Nat → Bool} {col : Nat → Nat} {i j : Nat} (hi : i < 16) (ha : al i = true) : MKc al (updC col i j) (i + 1) j &&& (2 ^ i ^^^ 4294967295) = MKc al col i j := bits_eq (Nat.lt_of_le_of_lt Nat.and_le_left (MKc_s al (updC col i j) (i + 1) j).1) (MKc_s al col i j).1 fun x hx => by
  rw [clr_bit (by omega), MK_up hi ha, (set_bit (MKc_s al col i j).1 hi).2]
  by_cases e : x = i
  · rw [decide_eq_true e, (MKc_s al col i j).2, e, decide_eq_false (show ¬ i < i by omega), Bool.false_and, Bool.and_false]
    rfl
  · rw [decide_eq_false e, Bool.or_false, Bool.not_false, Bool.and_true]
theorem oqc_and {al : Nat → Bool} {B : Nat → Nat} {col : Nat → Nat} {i j : Nat} (hi : i < 16) : oqc al (fun a b => (B a).testBit b) i j col = true ↔ MKc al col i j &&& B i = 0 := by
  constructor
  · intro h
    apply Nat.eq_of_testBit_eq
    intro x
    rw [Nat.testBit_and, Nat.zero_testBit, (MKc_s al col i j).2]
    by_cases x1 : x < i
    · cases hl : al x with
      | false => rw [Bool.false_and, Bool.and_false, Bool.and_false, Bool.false_and]
      | true =>
        cases hB : (B i).testBit x with
        | false => rw [Bool.and_false]
        | true => rw [decide_eq_false (oqc_s.mp h x x1 hl hB), Bool.and_false, Bool.and_false, Bool.and_false, Bool.false_and]
    · rw [decide_eq_false x1, Bool.false_and, Bool.and_false, Bool.false_and]
  · intro h
    refine oqc_s.mpr fun b hb hl hA e => ?_
    have k : (MKc al col i j &&& B i).testBit b = true := by
      have hA : (B i).testBit b = true := hA
      rw [Nat.testBit_and, hA, (MKc_s al col i j).2, decide_eq_true (show b < 16 by omega), decide_eq_true hb, hl, decide_eq_true e]
      rfl
    rw [h, Nat.zero_testBit] at k
    exact absurd k (by decide)
theorem paint_G {al : Nat → Bool} {B : Nat → Nat} {nM n : Nat} (hM : nM < 65536) (hMb : ∀ b, b < 16 → nM.testBit b = al b) (hB : ∀ a, a < 16 → B a < 65536) (hn : n ≤ 4) : ∀ N k i u m col, i + k = 16 → k + 1 ≤ N → u ≤ 4 → m 121 3 = o32 nM → (∀ a, a < 16 → m 123 a = o32 (B a)) → (∀ b, b < i → al b = true → m 122 b = o32 (col b)) → (∀ s, s < 4 → m 124 s = o32 (MKc al col i s)) → ∃ v m', nX3_paintFrom N (o32 i) (o32 n) (o32 u) m = some (v, m') ∧ P12 m m' ∧ ((srG al (fun a b => (B a).testBit b) n k u col = none ∧ v = 0 ∧ (∀ b, b < i → m' 122 b = m 122 b) ∧ ∀ s, s < 4 → m' 124 s = o32 (MKc al col i s)) ∨ ∃ c', srG al (fun a b => (B a).testBit b) n k u col = some c' ∧ v = 1 ∧ ∀ b, b < 16 → al b = true → m' 122 b = o32 (c' b)) := by
  intro N
  induction N with
  | zero => intro k i u m col h h1; omega
  | succ N ih =>
    intro k i u m col hik hN hu h3 h123 h122 h124
    show ∃ v m', fX3_paintFrom (nX3_paintFrom N) (o32 i) (o32 n) (o32 u) m = some (v, m') ∧ _
    unfold fX3_paintFrom
    rw [if_neg (not_lt0 (by omega))]
    by_cases c : i = 16
    · have k0 : k = 0 := by omega
      subst k0
      rw [if_neg (show ¬ o32 i < 16 by rw [c]; decide)]
      exact ⟨_, _, rfl, fun _ _ _ _ => rfl, .inr ⟨col, rfl, rfl, fun b hb hl => h122 b (by omega) hl⟩⟩
    · obtain ⟨k, rfl⟩ : ∃ y, k = y + 1 := ⟨k - 1, by omega⟩
      have e15 : 15 - k = i := by omega
      have hi : i < 16 := by omega
      have l16 : o32 i < 16 := by rw [show (16 : Int32) = o32 16 from rfl, o_lt (by omega) (by omega)]; omega
      rw [if_pos l16, h3, bit1 (by omega) (by omega), hMb i hi, srG_S, e15]
      cases ala : al i with
      | false =>
        have nb : ∀ b, al b = true → b ≠ i := fun b hl e => by
          rw [e, ala] at hl
          exact absurd hl (by decide)
        obtain ⟨v, m', e1, e2, e3⟩ := ih k (i + 1) u m col (by omega) (by omega) hu h3 h123 (fun b hb hl => h122 b (by have := nb b hl; omega) hl) (fun s hs => by rw [h124 s hs, MK_dead ala])
        rw [if_neg (show ¬ false = true by decide), if_pos (show (0 : Int32) = 0 from rfl), o_s, e1, Option.bind_some, if_neg (show ¬ false = true by decide)]
        rcases e3 with ⟨a1, a2, a3, a4⟩ | ⟨c', a1, a2, a3⟩
        · rw [if_pos (show v = 0 ∨ v = 1 from .inl a2)]
          exact ⟨v, m', rfl, e2, .inl ⟨a1, a2, fun b hb => a3 b (by omega), fun s hs => by rw [a4 s hs, MK_dead ala]⟩⟩
        · rw [if_pos (show v = 0 ∨ v = 1 from .inr a2)]
          exact ⟨v, m', rfl, e2, .inr ⟨c', a1, a2, a3⟩⟩
      | true =>
        have lim : fJ9_min_7cf53 4 (fJ9_min_7cf53 (o32 n) (o32 u + 1)) = o32 (min n (u + 1)) := by
          rw [o_s, min_o (by omega) (by omega), show fJ9_min_7cf53 4 (o32 (min n (u + 1))) = _ from min_o (a := 4) (by omega) (by omega), Nat.min_eq_right (show min n (u + 1) ≤ 4 by omega)]
        rw [if_pos (show true = true from rfl), if_neg one0, if_pos (show true = true from rfl), lim]
        have hL : min n (u + 1) ≤ 4 := by omega
        generalize min n (u + 1) = L at hL
        generalize hf : (fun s => if oqc al (fun a b => (B a).testBit b) i s col = true then srG al (fun a b => (B a).testBit b) n k (max u (s + 1)) (updC col i s) else none) = f
        have fs : ∀ s, f s = if oqc al (fun a b => (B a).testBit b) i s col = true then srG al (fun a b => (B a).testBit b) n k (max u (s + 1)) (updC col i s) else none := fun s => by rw [← hf]
        have key := lp_inv (body := lX3_paintFrom_49 (nX3_paintFrom N) (o32 i) (o32 n) (o32 u) (o32 L)) (fun s => ∃ j, j ≤ L ∧ s.1 = o32 j ∧ P12 m s.2 ∧ (∀ b, b < i → s.2 122 b = m 122 b) ∧ (∀ z, z < 4 → s.2 124 z = o32 (MKc al col i z)) ∧ fsT f L 0 = fsT f (L - j) j) (fun s => 5 - s.1.toNatClampNeg) (fun e => P12 m e.2 ∧ ((fsT f L 0 = none ∧ e.1 = 0 ∧ (∀ b, b < i → e.2 122 b = m 122 b) ∧ ∀ z, z < 4 → e.2 124 z = o32 (MKc al col i z)) ∨ ∃ c', fsT f L 0 = some c' ∧ e.1 = 1 ∧ ∀ b, b < 16 → al b = true → e.2 122 b = o32 (c' b))) (fun s hI => ?_) fu (0, m) ⟨0, by omega, rfl, fun _ _ _ _ => rfl, fun _ _ => rfl, h124, rfl⟩ (lt_fu (by show 5 - _ < _; omega))
        · obtain ⟨e, e1, e2, e3⟩ := key
          exact ⟨e.1, e.2, e1, e2, e3⟩
        · obtain ⟨s1, S⟩ := s
          obtain ⟨j, j1, j2, hP, hb, hk, hF⟩ := hI
          have j2 : s1 = o32 j := j2
          subst j2
          have hP : P12 m S := hP
          have hb : ∀ b, b < i → S 122 b = m 122 b := hb
          have hk : ∀ z, z < 4 → S 124 z = o32 (MKc al col i z) := hk
          by_cases g : j = L
          · right
            refine ⟨((0 : Int32), S), ?_, hP, .inl ⟨by rw [hF, g, Nat.sub_self]; rfl, rfl, hb, hk⟩⟩
            unfold lX3_paintFrom_49
            rw [if_pos (show o32 L ≤ o32 j by rw [g]; exact Int32.le_refl _)]
          · have ng : ¬ o32 L ≤ o32 j := by rw [o_le (by omega) (by omega)]; omega
            have j4 : j < 4 := by omega
            have hF : fsT f L 0 = (f j).or (fsT f (L - (j + 1)) (j + 1)) := by rw [hF, show L - j = (L - (j + 1)) + 1 by omega]; rfl
            have st : ∀ M : Mem, lX3_paintFrom_49 (nX3_paintFrom N) (o32 i) (o32 n) (o32 u) (o32 L) (o32 j, S) = some (.inl (o32 j + 1, M)) → P12 m M → (∀ b, b < i → M 122 b = m 122 b) → (∀ z, z < 4 → M 124 z = o32 (MKc al col i z)) → f j = none → ∃ s', lX3_paintFrom_49 (nX3_paintFrom N) (o32 i) (o32 n) (o32 u) (o32 L) (o32 j, S) = some (.inl s') ∧ (∃ j, j ≤ L ∧ s'.1 = o32 j ∧ P12 m s'.2 ∧ (∀ b, b < i → s'.2 122 b = m 122 b) ∧ (∀ z, z < 4 → s'.2 124 z = o32 (MKc al col i z)) ∧ fsT f L 0 = fsT f (L - j) j) ∧ 5 - s'.1.toNatClampNeg < 5 - (o32 j).toNatClampNeg := fun M h0 h1 h2 h3 h4 => ⟨(o32 j + 1, M), h0, ⟨j + 1, by omega, o_s j, h1, h2, h3, by rw [hF, h4]; rfl⟩, by rw [show ((o32 j + 1, M) : Int32 × Mem).1 = o32 (j + 1) from o_s j, o_tn (show j + 1 < 2147483648 by omega), o_tn (show j < 2147483648 by omega)]; omega⟩
            have s123 : S 123 i = o32 (B i) := by rw [hP 123 i (by omega) (by omega)]; exact h123 i hi
            have ml := Nat.and_le_right (n := MKc al col i j) (m := B i)
            have bi := hB i hi
            have hd : lX3_paintFrom_49 (nX3_paintFrom N) (o32 i) (o32 n) (o32 u) (o32 L) (o32 j, S) = if o32 (MKc al col i j &&& B i) = 0 then (nX3_paintFrom N (o32 (i + 1)) (o32 n) (o32 (max u (j + 1))) (mput (mput S 124 j (o32 (MKc al col i j ||| 2 ^ i))) 122 i (o32 j))).bind fun q11 => (if q11.1 = 0 then some (.inl ((o32 j + 1), (mput q11.2 124 j ((q11.2 124 j) &&& (o32 (2 ^ i) ^^^ -1))))) else some (.inr (1, q11.2))) else some (.inl (o32 j + 1, S)) := by
              unfold lX3_paintFrom_49
              rw [if_neg ng]
              dsimp only
              simp only [if_pos (o_inb (show j < 4 from j4) (show j < 2147483648 by omega)), if_pos (o_inb (show i < 16 from hi) (show i < 2147483648 by omega)), o_tn (show j < 2147483648 by omega), o_tn (show i < 2147483648 by omega)]
              rw [hk j j4, s123, o_and, shl_tab i (by omega), o_or, o_s i, o_s j, max_o (by omega) (by omega)]
            by_cases ok : MKc al col i j &&& B i = 0
            · have okt := (oqc_and (al := al) (col := col) (j := j) hi).mpr ok
              have fj : f j = srG al (fun a b => (B a).testBit b) n k (max u (j + 1)) (updC col i j) := by rw [fs, if_pos okt]
              obtain ⟨v, m', e1, e2, e3⟩ := ih k (i + 1) (max u (j + 1)) (mput (mput S 124 j (o32 (MKc al col i j ||| 2 ^ i))) 122 i (o32 j)) (updC col i j) (by omega) (by omega) (by omega) (by rw [mput_c _ _ _ (by omega), mput_c _ _ _ (by omega), hP 121 3 (by omega) (by omega)]; exact h3) (fun a ha => by rw [mput_c _ _ _ (by omega), mput_c _ _ _ (by omega), hP 123 a (by omega) (by omega)]; exact h123 a ha) (fun b hb' hl => by
                unfold updC
                by_cases e : b = i
                · rw [if_pos e, e, mput_at]
                · rw [if_neg e, mput_j _ _ _ _ e, mput_c _ _ _ (by omega), hb b (by omega)]
                  exact h122 b (by omega) hl) (fun z hz => by
                rw [mput_c _ _ _ (by omega)]
                by_cases e : z = j
                · rw [e, mput_at, MK_up hi ala]
                · rw [mput_j _ _ _ _ e, MK_ne e]
                  exact hk z hz)
              have hQ : P12 m m' := fun c j a b => by rw [e2 c j a b, mput_c _ _ _ a, mput_c _ _ _ b]; exact hP c j a b
              rw [if_pos (show o32 (MKc al col i j &&& B i) = 0 by rw [ok]; rfl), e1, Option.bind_some] at hd
              rcases e3 with ⟨a1, a2, a3, a4⟩ | ⟨c', a1, a2, a3⟩
              · left
                refine st (mput m' 124 j ((m' 124 j) &&& (o32 (2 ^ i) ^^^ -1))) (by rw [hd, if_pos (show v = 0 from a2)]) (fun c z a b => by rw [mput_c _ _ _ b]; exact hQ c z a b) (fun b hb' => ?_) (fun z hz => ?_) (by rw [fj]; exact a1)
                · rw [mput_c _ _ _ (by omega), a3 b (by omega), mput_j _ _ _ _ (show b ≠ i by omega), mput_c _ _ _ (by omega)]
                  exact hb b hb'
                · by_cases e : z = j
                  · rw [e, mput_at, a4 j j4, show (-1 : Int32) = o32 4294967295 by decide, o_xor, o_and, MK_dn hi ala]
                  · rw [mput_j _ _ _ _ e, a4 z hz, MK_ne e]
              · right
                refine ⟨((1 : Int32), m'), by rw [hd, if_neg (show ¬ v = 0 by rw [a2]; decide)], hQ, .inr ⟨c', ?_, rfl, a3⟩⟩
                rw [hF, fj, a1]
                rfl
            · rw [if_neg (show ¬ o32 (MKc al col i j &&& B i) = 0 from fun z => ok ((o_eq (b := 0) (by omega) (by omega)).mp z))] at hd
              left
              refine st S hd hP hb hk ?_
              rw [fs, if_neg (fun z => ok ((oqc_and hi).mp z))]

/-! ONE LOOKS AT THE WALLS: WAY -/
theorem shm_tab : ∀ b, b < 32 → (o32 b &&& 31).toBitVec.smod 32 = BitVec.ofNat 32 b := by decide +kernel
theorem o_shr {a b : Nat} (ha : a < 2147483648) (hb : b < 32) : jShr (o32 a) (o32 b) = o32 (a >>> b) := by
  apply Int32.toBitVec.inj
  have e : (o32 b &&& 31).toBitVec.smod (32 : BitVec 32) = BitVec.ofNat 32 b := shm_tab b hb
  show (o32 a >>> (o32 b &&& 31)).toBitVec = BitVec.ofNat 32 (a >>> b)
  rw [Int32.toBitVec_shiftRight, e]
  apply BitVec.eq_of_toNat_eq
  show ((BitVec.ofNat 32 a).sshiftRight (BitVec.ofNat 32 b).toNat).toNat = _
  have ms : (BitVec.ofNat 32 a).msb = false := by
    rw [BitVec.msb_eq_decide, BitVec.toNat_ofNat, Nat.mod_eq_of_lt (by omega)]
    exact decide_eq_false (by omega)
  rw [BitVec.sshiftRight_eq_of_msb_false ms, BitVec.toNat_ushiftRight, BitVec.toNat_ofNat, BitVec.toNat_ofNat, BitVec.toNat_ofNat, Nat.mod_eq_of_lt (show a < 2 ^ 32 by omega), Nat.mod_eq_of_lt (show b < 2 ^ 32 by omega), Nat.mod_eq_of_lt]
  rw [Nat.shiftRight_eq_div_pow]
  exact Nat.lt_of_le_of_lt (Nat.div_le_self _ _) (by omega)
theorem has_bit {n b : Nat} (hn : n < 65536) (hb : b < 16) : fX9_has (o32 n) (o32 b) = i01 (n.testBit b) := by
  unfold fX9_has
  rw [o_shr (by omega) (by omega), show (1 : Int32) = o32 1 from rfl, o_and, Nat.and_one_is_mod, Nat.testBit_eq_decide_div_mod_eq, Nat.shiftRight_eq_div_pow]
  rcases Nat.mod_two_eq_zero_or_one (n / 2 ^ b) with h | h <;> rw [h] <;> rfl
noncomputable def mkb (p : Nat → Bool) : Nat → Nat
  | 0 => 0
  | i + 1 => if p i then mkb p i ||| 2 ^ i else mkb p i
theorem mkb_s (p : Nat → Bool) : ∀ i, i ≤ 16 → mkb p i < 65536 ∧ ∀ x, (mkb p i).testBit x = (decide (x < i) && p x)
  | 0, _ => ⟨by unfold mkb; omega, fun x => by unfold mkb; rw [Nat.zero_testBit, decide_eq_false (by omega)]; rfl⟩
  | i + 1, hi => by
    obtain ⟨h1, h2⟩ := mkb_s p i (by omega)
    show (if p i then mkb p i ||| 2 ^ i else mkb p i) < 65536 ∧ ∀ x, (if p i then mkb p i ||| 2 ^ i else mkb p i).testBit x = _
    cases hp : p i with
    | false =>
      rw [if_neg (by decide)]
      refine ⟨h1, fun x => ?_⟩
      rw [h2]
      by_cases e : x = i
      · rw [e, hp, Bool.and_false, Bool.and_false]
      · congr 1
        exact decide_eq_decide.mpr (by omega)
    | true =>
      rw [if_pos rfl]
      have sb := set_bit h1 (show i < 16 by omega)
      refine ⟨sb.1, fun x => ?_⟩
      rw [sb.2, h2]
      by_cases e : x = i
      · rw [e, hp, decide_eq_true rfl, decide_eq_true (show i < i + 1 by omega), Bool.or_true]
        rfl
      · rw [decide_eq_false e, Bool.or_false]
        congr 1
        exact decide_eq_decide.mpr (by omega)
noncomputable def NB (r : Nat → List Nat) (al : Nat → Bool) (a : Nat) : Nat := mkb (fun x => al a && decide (x ∈ r a)) 16
theorem NB_s (r : Nat → List Nat) (al : Nat → Bool) (a : Nat) : NB r al a < 65536 ∧ ∀ x, (NB r al a).testBit x = (decide (x < 16) && (al a && decide (x ∈ r a))) := mkb_s _ 16 (Nat.le_refl _)
theorem NB_eq {r : Nat → List Nat} {al : Nat → Bool} {a n : Nat} (hn : n < 65536) (ha : al a = true) (h : ∀ x, x < 16 → n.testBit x = decide (x ∈ r a)) : n = NB r al a := bits_eq hn (NB_s r al a).1 fun x hx => by rw [h x hx, (NB_s r al a).2, decide_eq_true hx, ha]; rfl
theorem NB_0 {r : Nat → List Nat} {al : Nat → Bool} {a : Nat} (ha : al a = false) : NB r al a = 0 := bits_eq (NB_s r al a).1 (by omega) fun x _ => by rw [(NB_s r al a).2, ha, Nat.zero_testBit]; simp
theorem beside_cN {k : Nat} {m : Mem} {r : Nat → List Nat} {al : Nat → Bool} {a : Nat} (h : CS k m r al) (hg : Gr r al) (ha : a < 16) : fX0_bitsBeside k (o32 a) m = some (o32 (NB r al a)) := by
  cases e : al a with
  | true =>
    obtain ⟨n, n1, n2, n3⟩ := bitsBeside_c h hg ha e
    rw [n2, NB_eq n1 e n3]
  | false =>
    have g := h.2 a ha
    rw [if_neg (by rw [e]; decide)] at g
    rw [NB_0 e]
    unfold fX0_bitsBeside
    rw [sidesOf_c ha g, Option.bind_some]
    obtain ⟨z, hz⟩ : ∃ y, fu = y + 1 := ⟨fu - 1, by have := lt_fu (n := 1) (by omega); omega⟩
    rw [hz]
    exact lp_e rfl
theorem look_c {m : Mem} {r : Nat → List Nat} {al : Nat → Bool} (h : CS 0 m r al) (hg : Gr r al) : ∃ m', fX3_look 0 m = some m' ∧ (∀ c j, c ≠ 121 → c ≠ 123 → m' c j = m c j) ∧ m' 121 3 = m (cw 0 2) 0 ∧ ∀ a, a < 16 → m' 123 a = o32 (NB r al a) := by
  unfold fX3_look
  have key := lp_ix (body := lX3_look_10 0) (fun i s => s.1 = o32 i ∧ (∀ c j, c ≠ 121 → c ≠ 123 → s.2 c j = m c j) ∧ s.2 121 3 = m (cw 0 2) 0 ∧ ∀ a, a < i → s.2 123 a = o32 (NB r al a)) (fun m' => (∀ c j, c ≠ 121 → c ≠ 123 → m' c j = m c j) ∧ m' 121 3 = m (cw 0 2) 0 ∧ ∀ a, a < 16 → m' 123 a = o32 (NB r al a)) 16 0 (0, mput m 121 3 (m (cw 0 2) 0)) fu ⟨rfl, fun c j h1 _ => by dsimp only; rw [mput_c _ _ _ h1], by dsimp only; rw [mput_at], fun a ha => absurd ha (by omega)⟩ (fun i s _ hi hI => ?_) (fun s hI => ?_) (lt_fu (by omega))
  · exact key
  · obtain ⟨i1, i2, i3, i4⟩ := hI
    have hc : CS 0 s.2 r al := CS_same h (fun c j hc => i2 c j (by unfold cw at hc; omega) (by unfold cw at hc; omega))
    unfold lX3_look_10
    rw [i1, if_neg (not_16 (by omega)), beside_cN hc hg (by omega), Option.bind_some, if_pos (o_inb (by omega) (by omega)), o_tn (by omega), o_s]
    refine ⟨_, rfl, rfl, fun c j h1 h2 => ?_, ?_, fun a ha => ?_⟩
    · dsimp only
      rw [mput_c _ _ _ h2]
      exact i2 c j h1 h2
    · dsimp only
      rw [mput_c _ _ _ (by omega)]
      exact i3
    · dsimp only
      rw [mput_get]
      by_cases e : a = i
      · rw [if_pos ⟨rfl, e⟩, e]
      · rw [if_neg (fun z => e z.2)]
        exact i4 a (by omega)
  · obtain ⟨i1, i2, i3, i4⟩ := hI
    unfold lX3_look_10
    rw [i1, if_pos (show (16 : Int32) ≤ o32 (0 + 16) by decide)]
    exact ⟨_, rfl, i2, i3, i4⟩
theorem beside_mN {m : Mem} {r : Nat → List Nat} {al : Nat → Bool} {a : Nat} (h : RS m r al) (hg : Gr r al) (ha : a < 16) (e : al a = true) : fX9_besides (o32 a) m = some (o32 (NB r al a)) := by
  obtain ⟨n, n1, n2, n3⟩ := besides_s h hg ha e
  rw [n2, NB_eq n1 e n3]
/-- one wall further -/
noncomputable def nxI (B : Nat → Nat) (M : Nat) : Nat → Nat
  | 0 => 0
  | i + 1 => if M.testBit i then nxI B M i ||| B i else nxI B M i
theorem nxI_lt {B : Nat → Nat} {M : Nat} (hB : ∀ a, a < 16 → B a < 65536) : ∀ i, i ≤ 16 → nxI B M i < 65536
  | 0, _ => by unfold nxI; omega
  | i + 1, hi => by
    have h := nxI_lt (M := M) hB i (by omega)
    show (if M.testBit i then nxI B M i ||| B i else nxI B M i) < 65536
    split
    · exact Nat.or_lt_two_pow (n := 16) h (hB i (by omega))
    · exact h
theorem any_c {m : Mem} {B : Nat → Nat} {M : Nat} (hM : M < 65536) (h : ∀ a, a < 16 → m 123 a = o32 (B a)) : fX3_besideAny (o32 M) m = some (o32 (nxI B M 16)) := by
  unfold fX3_besideAny
  have key := lp_ix (body := lX3_besideAny_4 (o32 M) m) (fun i s => s.1 = o32 (nxI B M i) ∧ s.2 = o32 i) (fun e => e = o32 (nxI B M 16)) 16 0 ((0 : Int32), (0 : Int32)) fu ⟨rfl, rfl⟩ (fun i s _ hi hI => ?_) (fun s hI => ?_) (lt_fu (by omega))
  · obtain ⟨e, e1, e2⟩ := key
    rw [e1, e2]
  · obtain ⟨i1, i2⟩ := hI
    unfold lX3_besideAny_4
    rw [i1, i2, if_neg (not_16 (by omega)), bit1 (by omega) (by omega), o_s]
    cases c : M.testBit i with
    | true =>
      rw [if_pos rfl, if_pos rfl, if_pos (o_inb (by omega) (by omega)), o_tn (by omega), h i (by omega), o_or]
      exact ⟨_, rfl, by show _ = o32 (if M.testBit i then nxI B M i ||| B i else nxI B M i); rw [c, if_pos rfl], rfl⟩
    | false =>
      rw [if_neg (show ¬ false = true by decide), if_neg (show ¬ (0 : Int32) = 1 by decide)]
      exact ⟨_, rfl, by show _ = o32 (if M.testBit i then nxI B M i ||| B i else nxI B M i); rw [c, if_neg (by decide)], rfl⟩
  · obtain ⟨i1, i2⟩ := hI
    unfold lX3_besideAny_4
    rw [i1, i2, if_pos (show (16 : Int32) ≤ o32 (0 + 16) by decide)]
    exact ⟨_, rfl, rfl⟩

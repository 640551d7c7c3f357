section
/-! A TEXT IS READ -/
theorem RL_of {mc mr mc' mr' : Mem} {r : Nat → List Nat} {al : Nat → Bool} {f : Nat → Nat → Nat} {q : Nat → List Nat} (h : RLx mc mr) (w : WS 0 mc' (mr' 138) r al f q) (c : ∀ a j, ¬ ((1 ≤ a ∧ a ≤ 39) ∨ (118 ≤ a ∧ a ≤ 120)) → mc' a j = mc a j) (k : ∀ a j, a ≠ 138 → a ≠ 144 → ¬ (a = 137 ∧ 7 ≤ j ∧ j ≤ 12) → mr' a j = mr a j) : RLx mc' mr' := RL_k h ⟨r, al, f, q, w⟩ (fun a j ha => c a j (by omega)) (fun a j ha => k a j (by omega) (by omega) (by omega))
theorem names_u : ∀ u, u < 3 → fX2_namesOf (o32 u) = 11 + u := by decide
theorem cw0 (o : Nat) (h : 1 ≤ o) : cw 0 o = o := by
  unfold cw
  omega
/-- the end: the model's codes laid out -/
theorem lay_m {u : Nat} {S : List Nat} {m1 : Mem} (hu : u < 3) (hl : S.length ≤ 60) (h9 : m1 137 9 = o32 u) (h12 : m1 137 12 = o32 S.length) (hc : ∀ i, (h : i < S.length) → m1 144 i = o32 S[i]) : ∃ m2, lp lX9_text_118 fu (0, m1) = some (1, m2) ∧ (∀ c j, ¬ (c = 138 ∧ 896 + 62 * u + 1 ≤ j ∧ j < 896 + 62 * u + 1 + S.length) → m2 c j = m1 c j) ∧ ∀ i, (h : i < S.length) → m2 138 (896 + 62 * u + 1 + i) = o32 S[i] := by
  have key := lp_ix (body := lX9_text_118) (fun i s => s.1 = o32 i ∧ (∀ c j, ¬ (c = 138 ∧ 896 + 62 * u + 1 ≤ j ∧ j < 896 + 62 * u + 1 + i) → s.2 c j = m1 c j) ∧ ∀ k, k < i → (h : k < S.length) → s.2 138 (896 + 62 * u + 1 + k) = o32 S[k]) (fun g => g = (1, g.2) ∧ (∀ c j, ¬ (c = 138 ∧ 896 + 62 * u + 1 ≤ j ∧ j < 896 + 62 * u + 1 + S.length) → g.2 c j = m1 c j) ∧ ∀ i, (h : i < S.length) → g.2 138 (896 + 62 * u + 1 + i) = o32 S[i]) S.length 0 (0, m1) fu ⟨rfl, fun _ _ _ => rfl, fun _ h => absurd h (by omega)⟩ (fun i s _ hi hJ => ?_) (fun s hJ => ?_) (lt_fu (by omega))
  · obtain ⟨g, e1, e2, e3, e4⟩ := key
    rw [e1, e2]
    exact ⟨_, rfl, e3, e4⟩
  · obtain ⟨j1, j2, j3⟩ := hJ
    rw [Nat.zero_add] at hi
    unfold lX9_text_118
    have n12 : ¬ o32 S.length ≤ o32 i := by rw [o_le (by omega) (by omega)]; omega
    have a : (896 : Int32) + 62 * o32 u + 1 + o32 i = o32 (896 + 62 * u + 1 + i) := by
      rw [show (62 : Int32) * o32 u = o32 (62 * u) from o_mul 62 u, show (896 : Int32) + o32 (62 * u) = o32 (896 + 62 * u) from o_add 896 _, o_s, o_add]
    rw [j1, j2 137 12 (by omega), j2 137 9 (by omega), h12, h9, if_neg n12, if_pos (o_inb (show i < 60 by omega) (by omega)), a, if_pos (o_inb (show 896 + 62 * u + 1 + i < 1082 by omega) (by omega)), o_tn (show i < 2147483648 by omega), o_tn (show 896 + 62 * u + 1 + i < 2147483648 by omega), j2 144 i (by omega), hc i hi, o_s]
    refine ⟨_, rfl, rfl, fun c j h1 => ?_, fun k hk hl => ?_⟩
    · dsimp only
      rw [mput_get, if_neg (by omega)]
      exact j2 c j (by omega)
    · dsimp only
      rw [mput_get]
      by_cases e : k = i
      · subst e
        rw [if_pos ⟨rfl, rfl⟩]
      · rw [if_neg (by omega)]
        exact j3 k (by omega) hl
  · obtain ⟨j1, j2, j3⟩ := hJ
    rw [Nat.zero_add] at j1 j2 j3
    unfold lX9_text_118
    rw [j1, j2 137 12 (by omega), h12, if_pos (Int32.le_refl _)]
    exact ⟨_, rfl, rfl, j2, fun i hi => j3 i hi hi⟩
theorem text_o {mc mr : Mem} (h : RLx mc mr) (x : Int32) : Sm (fX8_text x mc) (fX9_text x mr) := by
  have hh := h
  obtain ⟨⟨r, al, f, q, w⟩, _⟩ := h
  obtain ⟨⟨n, n1, n2, n3⟩, t2, t3, t4⟩ := WS_8 w
  unfold fX8_text fX9_text
  rw [wi_eq]
  rcases win (l := 0) (h := 2) (by omega) (by omega) x with z | ⟨u, _, u2, rfl, u4⟩
  · rw [if_pos (show fX9_within x 0 2 = 0 from z), if_pos (show fX9_within x 0 2 = 0 from z)]
    exact err1 hh
  have z : ¬ fX9_within (o32 u) 0 2 = 0 := by rw [show fX9_within (o32 u) 0 2 = 1 from u4]; exact one0
  have hu : u < 3 := by omega
  rw [if_neg z, if_neg z, n3]
  unfold fX2_read_60
  have mx : fJ9_max_7cf53 0 (fJ9_min_7cf53 (o32 n) (fJ9_min_7cf53 60 60)) = o32 n := by
    rw [show fJ9_min_7cf53 60 60 = o32 60 from min_b (a := 60) (b := 60) (by omega) (by omega), min_b (by omega) (by omega), show fJ9_max_7cf53 0 (o32 (min n 60)) = _ from max_b (a := 0) (by omega) (by omega)]
    congr 1
    omega
  have cp : cpin 0 0 (o32 n) 60 60 := ⟨by decide, by decide, o_ge0 (by omega), by rw [o_tn (by omega)]; show 0 + _ ≤ _; omega, by rw [o_tn (by omega)]; show 0 + _ ≤ _; omega⟩
  rw [mx, mput_at, if_pos cp, names_u u hu, if_pos (show 11 + u < 100 by omega), o_tn (show n < 2147483648 by omega), show Int32.ofNat (11 + u) = o32 (11 + u) from rfl]
  generalize hm0 : mput (mput (mput (mput (mcpy (mput mc 118 4 (o32 n)) (cw 0 36) 120 0 0 n) 118 5 (o32 (11 + u))) 118 0 0) 118 1 0) 118 6 0 = m0
  generalize hr0 : mput (mput (mput (mput (mput mr 137 9 (o32 u)) 137 7 0) 137 8 0) 137 10 0) 137 12 0 = mr0
  have c0 : ∀ c j, c ≠ 118 → ¬ (c = 120 ∧ j < n) → m0 c j = mc c j := fun c j h1 h2 => by
    rw [← hm0, mput_get, if_neg (by omega), mput_get, if_neg (by omega), mput_get, if_neg (by omega), mput_get, if_neg (by omega), mcpy_get, if_neg (by omega), mput_get, if_neg (by omega)]
  have r0 : ∀ c j, ¬ (c = 137 ∧ 7 ≤ j ∧ j ≤ 12) → mr0 c j = mr c j := fun c j h1 => by
    rw [← hr0, mput_get, if_neg (by omega), mput_get, if_neg (by omega), mput_get, if_neg (by omega), mput_get, if_neg (by omega), mput_get, if_neg (by omega)]
  have v := t2
  let B : Nat → Nat := fun j => (mc (cw 0 36) j).toNatClampNeg
  have hB : ∀ j, j < n → B j ≤ 255 ∧ mr 138 (812 + j) = o32 (B j) ∧ mc (cw 0 36) j = o32 (B j) := fun j hj => by
    obtain ⟨b, b1, b2, b3⟩ := t2 j (by omega)
    have : B j = b := by show (mc (cw 0 36) j).toNatClampNeg = b; rw [b3, o_tn (by omega)]
    rw [this]
    exact ⟨b1, b2, b3⟩
  have X : CX u n B m0 mr0 := by
    refine ⟨hu, n1, fun j hj => (hB j hj).1, ?_, ?_, fun j hj => ?_, ?_, fun j hj => ?_, ?_⟩
    · rw [← hm0, mput_get, if_neg (by omega), mput_get, if_neg (by omega), mput_get, if_neg (by omega), mput_get, if_neg (by omega), mcpy_get, if_neg (by omega), mput_at]
    · rw [← hm0, mput_get, if_neg (by omega), mput_get, if_neg (by omega), mput_get, if_neg (by omega), mput_at]
    · rw [← hm0, mput_get, if_neg (by omega), mput_get, if_neg (by omega), mput_get, if_neg (by omega), mput_get, if_neg (by omega), mcpy_get, if_pos (by omega), mput_get, if_neg (fun e => by have := e.1; unfold cw at this; omega), show 0 + (j - 0) = j by omega]
      exact (hB j hj).2.2
    · rw [r0 _ _ (by omega)]; exact n2
    · rw [r0 _ _ (by omega)]; exact (hB j hj).2.1
    · rw [← hr0, mput_get, if_neg (by omega), mput_get, if_neg (by omega), mput_get, if_neg (by omega), mput_get, if_neg (by omega), mput_at]
  have G : GD n m0 mr0 0 0 [] m0 mr0 := by
    refine ⟨⟨fun _ _ _ _ => rfl, fun _ _ _ _ => rfl⟩, by omega, ?_, ?_, ?_, ?_, ?_, Nat.le_refl _, ?_, ?_, fun i hi => absurd hi (by rw [List.length_nil]; omega)⟩
    · rw [← hm0, mput_get, if_neg (by omega), mput_get, if_neg (by omega), mput_at]; rfl
    · rw [← hr0, mput_get, if_neg (by omega), mput_get, if_neg (by omega), mput_get, if_neg (by omega), mput_at]; rfl
    · rw [← hm0, mput_at]
    · rw [← hr0, mput_get, if_neg (by omega), mput_at]
    · rw [← hr0, mput_get, if_neg (by omega), mput_get, if_neg (by omega), mput_at]; rfl
    · rw [← hm0, mput_get, if_neg (by omega), mput_at]; rfl
    · rw [← hr0, mput_at]; rfl
  obtain ⟨m, m9, p1, p2, p3⟩ := (all_S X).1 0 [] m0 mr0 G
  rw [p1, p2, Option.bind_some, Option.bind_some]
  have fr : FRm m0 mr0 m m9 := by
    rcases p3 with ⟨_, _, _, _, _, g⟩ | b
    · exact g.1
    · exact b.1
  have f1 : ∀ c j, c ≠ 118 → c ≠ 119 → c ≠ 120 → m c j = mc c j := fun c j h1 h2 h3 => (fr.1 c j h2 (by omega)).trans (c0 c j h1 (by omega))
  have f2 : ∀ c j, c ≠ 144 → ¬ (c = 137 ∧ 7 ≤ j ∧ j ≤ 12) → m9 c j = mr c j := fun c j h1 h2 => (fr.2 c j h1 (by omega)).trans (r0 c j h2)
  have f4 : m 118 4 = o32 n := (fr.1 118 4 (by omega) (by omega)).trans X.2.2.2.1
  have f9 : m9 137 9 = o32 u := (fr.2 137 9 (by omega) (by omega)).trans X.2.2.2.2.2.2.2.2
  have f138 : m9 138 1 = o32 n := (f2 138 1 (by omega) (by omega)).trans n2
  have W : ∀ v, WS 0 (mput m (cw 0 1) 3 0) (mput (mput m9 137 10 v) 138 1 0 138) r al f q := fun v => by
    refine WS_tp w (fun o j ho h1 h2 h3 => ?_) (fun j h1 h2 h3 => ?_) ⟨⟨0, by omega, ?_, ?_⟩, fun i hi => ?_, ?_, fun i hi => ?_⟩
    · obtain ⟨o', e', ho'⟩ := ho
      have := cw_inj e'
      rw [mput_get, if_neg (fun z => h1 ⟨cw_inj z.1, .inl z.2⟩)]
      exact f1 _ _ (by unfold cw; omega) (by unfold cw; omega) (by unfold cw; omega)
    · rw [mput_get, if_neg (by omega), mput_get, if_neg (by omega)]
      exact f2 _ _ (by omega) (by omega)
    · rw [mput_at]; rfl
    · rw [mput_at]; rfl
    · rw [mput_get, if_neg (by omega), mput_get, if_neg (by omega), mput_c _ _ _ (cw_ne (by omega)), f2 _ _ (by omega) (by omega), f1 _ _ (by unfold cw; omega) (by unfold cw; omega) (by unfold cw; omega)]
      exact t2 i hi
    · rw [mput_get, if_neg (by omega), mput_get, if_neg (by omega), mput_j _ _ _ _ (by omega), f2 _ _ (by omega) (by omega), f1 _ _ (by unfold cw; omega) (by unfold cw; omega) (by unfold cw; omega)]
      exact t3
    · rw [mput_get, if_neg (by omega), mput_get, if_neg (by omega), mput_c _ _ _ (cw_ne (by omega)), f2 _ _ (by omega) (by omega), f1 _ _ (by unfold cw; omega) (by unfold cw; omega) (by unfold cw; omega)]
      exact t4 i hi
  have RL : ∀ v, RLx (mput m (cw 0 1) 3 0) (mput (mput m9 137 10 v) 138 1 0) := fun v => RL_of hh (W v) (fun a j ha => by rw [mput_get, if_neg (fun e => by have := e.1; unfold cw at this; omega)]; exact f1 a j (by omega) (by omega) (by omega)) (fun a j h1 h2 h3 => by rw [mput_get, if_neg (by omega), mput_get, if_neg (by omega)]; exact f2 a j h2 h3)
  have bad : ∀ p, m 118 0 = o32 p → m9 137 7 = o32 p → Sm ((some ((0 : Int32), m)).bind fun q3 => if q3.1 = 0 then some (-10 - (mput q3.2 (cw 0 1) 3 0) 118 0, mput q3.2 (cw 0 1) 3 0) else if inb (o32 u) 3 then (fX5_take_60 0 (o32 u).toNatClampNeg 119 ((mput q3.2 (cw 0 1) 3 0) 118 1) (mput q3.2 (cw 0 1) 3 0)).bind fun q5 => some (1, q5) else none) (bX9_text_71 1 m9) := fun p a1 a2 => by
    unfold bX9_text_71
    rw [Option.bind_some, if_pos rfl, if_pos (.inr rfl), mput_c _ _ _ (show 137 ≠ 138 by omega), mput_at, if_neg one0, mput_j m9 _ _ _ (show 7 ≠ 10 by omega), a2, mput_c _ _ _ (show 118 ≠ cw 0 1 by unfold cw; omega)]
    dsimp only
    rw [a1]
    exact ⟨_, _, _, rfl, rfl, RL 1⟩
  rcases p3 with ⟨p, S, s1, s2, s3, g⟩ | ⟨_, ⟨p, b1, b2, b3⟩, b4, b5, _⟩
  · obtain ⟨_, g1, g2, g3, g4, g5, g6, g7, g8, g9, g10⟩ := g
    rw [List.nil_append] at g7 g8 g9 g10
    rw [g4, if_pos rfl, g5, if_pos rfl, g2, g3, f4, f138]
    by_cases c : p = n
    · subst c
      rw [if_pos rfl, if_pos (Int32.le_refl _), Option.bind_some, if_neg one0, if_pos (o_inb hu (by omega)), mput_c m _ _ (show 118 ≠ cw 0 1 by unfold cw; omega), g8, o_tn (show u < 2147483648 by omega)]
      unfold fX5_take_60 bX9_text_71
      have l60 : ¬ (60 : Int32) < o32 S.length := by rw [show (60 : Int32) = o32 60 from rfl, o_lt (by omega) (by omega)]; omega
      have cp : cpin 0 0 (o32 S.length) 60 60 := ⟨by decide, by decide, o_ge0 (by omega), by rw [o_tn (by omega)]; show 0 + _ ≤ _; omega, by rw [o_tn (by omega)]; show 0 + _ ≤ _; omega⟩
      have a : (896 : Int32) + 62 * o32 u = o32 (896 + 62 * u) := by
        rw [show (62 : Int32) * o32 u = o32 (62 * u) from o_mul 62 u, show (896 : Int32) + o32 (62 * u) = o32 (896 + 62 * u) from o_add 896 _]
      rw [if_neg (not_lt0 (by omega)), if_neg l60, if_neg l60, if_pos cp, o_tn (show S.length < 2147483648 by omega), if_pos (.inl rfl), Option.bind_some, mput_self g5]
      dsimp only
      have w2 := W 0
      have rl2 := RL 0
      rw [mput_self g5] at w2 rl2
      have e10 : mput m9 138 1 0 137 10 = 0 := by rw [mput_c _ _ _ (show 137 ≠ 138 by omega)]; exact g5
      have e9 : mput m9 138 1 0 137 9 = o32 u := by rw [mput_c _ _ _ (show 137 ≠ 138 by omega)]; exact f9
      have e12 : mput m9 138 1 0 137 12 = o32 S.length := by rw [mput_c _ _ _ (show 137 ≠ 138 by omega)]; exact g9
      rw [e10, if_pos rfl, e9, a, if_pos (o_inb (show 896 + 62 * u < 1082 by omega) (by omega)), e12, o_tn (show 896 + 62 * u < 2147483648 by omega)]
      generalize hm1 : mput m9 138 1 0 = m1 at *
      obtain ⟨m2, l1, l2, l3⟩ := lay_m (u := u) (S := S) (m1 := mput m1 138 (896 + 62 * u) (o32 S.length)) hu (by omega) (by rw [mput_c _ _ _ (show 137 ≠ 138 by omega)]; exact e9) (by rw [mput_c _ _ _ (show 137 ≠ 138 by omega)]; exact e12) (fun i hi => by rw [mput_c _ _ _ (show 144 ≠ 138 by omega), ← hm1, mput_c _ _ _ (show 144 ≠ 138 by omega)]; exact (g10 i hi).2)
      rw [l1]
      generalize hc1 : mput m (cw 0 1) 3 0 = c1 at *
      have k2 : ∀ c j, ¬ (c = 138 ∧ 896 + 62 * u ≤ j ∧ j < 896 + 62 * u + 62) → m2 c j = m1 c j := fun c j hc => by
        rw [l2 c j (by omega), mput_get, if_neg (by omega)]
      refine ⟨_, _, _, rfl, rfl, RL_of rl2 (WS_txt w2 hu (fun o j ho h1 h2 => ?_) (fun j hj => k2 138 j (by omega)) (l := S) ⟨by omega, s3.2, fun _ => s3.1 0, ?_, ?_, fun i hi => ⟨l3 i hi, ?_⟩⟩) (fun a j ha => ?_) (fun a j h1 h2 h3 => k2 a j (by omega))⟩
      · rw [mput_c _ _ _ (cw_ne h1), mcpy_c _ _ _ _ (cw_ne h2)]
      · rw [l2 _ _ (by omega), mput_at]
      · rw [mput_at]
      · rw [mput_c _ _ _ (cw_ne (by omega)), mcpy_get, if_pos ⟨rfl, by omega, by omega⟩, show 0 + (i - 0) = i by omega, ← hc1, mput_c _ _ _ (show 119 ≠ cw 0 1 by unfold cw; omega)]
        exact (g10 i hi).1
      · rw [mput_c _ _ _ (by unfold cw; omega), mcpy_c _ _ _ _ (by unfold cw; omega)]
    · rw [if_neg (fun e => c ((o_eq (by omega) (by omega)).mp e)), if_neg (fun e => by rw [o_le (by omega) (by omega)] at e; omega)]
      exact bad p g2 g3
  · rw [b4, if_neg one0, b5, if_neg one0]
    exact bad p b2 b3
end
section
/-! ONE LOOKS AT THE WALLS: WAY -/
theorem shm_tab : ∀ b, b < 32 → (o32 b &&& 31).toBitVec.smod 32 = BitVec.ofNat 32 b := by decide +kernel
theorem o_shr {a b : Nat} (ha : a < 2147483648) (hb : b < 32) : jShr (o32 a) (o32 b) = o32 (a >>> b) := by
  apply Int32.toBitVec.inj
  have e : (o32 b &&& 31).toBitVec.smod (32 : BitVec 32) = BitVec.ofNat 32 b := shm_tab b hb
  show (o32 a >>> (o32 b &&& 31)).toBitVec = BitVec.ofNat 32 (a >>> b)
  rw [Int32.toBitVec_shiftRight, e]
  apply BitVec.eq_of_toNat_eq
  show ((BitVec.ofNat 32 a).sshiftRight (BitVec.ofNat 32 b).toNat).toNat = _
  have ms : (BitVec.ofNat 32 a).msb = false := by
    rw [BitVec.msb_eq_decide, BitVec.toNat_ofNat, Nat.mod_eq_of_lt (by omega)]
    exact decide_eq_false (by omega)
  rw [BitVec.sshiftRight_eq_of_msb_false ms, BitVec.toNat_ushiftRight, BitVec.toNat_ofNat, BitVec.toNat_ofNat, BitVec.toNat_ofNat, Nat.mod_eq_of_lt (show a < 2 ^ 32 by omega), Nat.mod_eq_of_lt (show b < 2 ^ 32 by omega), Nat.mod_eq_of_lt]
  rw [Nat.shiftRight_eq_div_pow]
  exact Nat.lt_of_le_of_lt (Nat.div_le_self _ _) (by omega)
theorem has_bit {n b : Nat} (hn : n < 65536) (hb : b < 16) : fX9_has (o32 n) (o32 b) = i01 (n.testBit b) := by
  unfold fX9_has
  rw [o_shr (by omega) (by omega), show (1 : Int32) = o32 1 from rfl, o_and, Nat.and_one_is_mod, Nat.testBit_eq_decide_div_mod_eq, Nat.shiftRight_eq_div_pow]
  rcases Nat.mod_two_eq_zero_or_one (n / 2 ^ b) with h | h <;> rw [h] <;> rfl
noncomputable def mkb (p : Nat → Bool) : Nat → Nat
  | 0 => 0
  | i + 1 => if p i then mkb p i ||| 2 ^ i else mkb p i
theorem mkb_s (p : Nat → Bool) : ∀ i, i ≤ 16 → mkb p i < 65536 ∧ ∀ x, (mkb p i).testBit x = (decide (x < i) && p x)
  | 0, _ => ⟨by unfold mkb; omega, fun x => by unfold mkb; rw [Nat.zero_testBit, decide_eq_false (by omega)]; rfl⟩
  | i + 1, hi => by
    obtain ⟨h1, h2⟩ := mkb_s p i (by omega)
    show (if p i then mkb p i ||| 2 ^ i else mkb p i) < 65536 ∧ ∀ x, (if p i then mkb p i ||| 2 ^ i else mkb p i).testBit x = _
    cases hp : p i with
    | false =>
      rw [if_neg (by decide)]
      refine ⟨h1, fun x => ?_⟩
      rw [h2]
      by_cases e : x = i
      · rw [e, hp, Bool.and_false, Bool.and_false]
      · congr 1
        exact decide_eq_decide.mpr (by omega)
    | true =>
      rw [if_pos rfl]
      have sb := set_bit h1 (show i < 16 by omega)
      refine ⟨sb.1, fun x => ?_⟩
      rw [sb.2, h2]
      by_cases e : x = i
      · rw [e, hp, decide_eq_true rfl, decide_eq_true (show i < i + 1 by omega), Bool.or_true]
        rfl
      · rw [decide_eq_false e, Bool.or_false]
        congr 1
        exact decide_eq_decide.mpr (by omega)
noncomputable def NB (r : Nat → List Nat) (al : Nat → Bool) (a : Nat) : Nat := mkb (fun x => al a && decide (x ∈ r a)) 16
theorem NB_s (r : Nat → List Nat) (al : Nat → Bool) (a : Nat) : NB r al a < 65536 ∧ ∀ x, (NB r al a).testBit x = (decide (x < 16) && (al a && decide (x ∈ r a))) := mkb_s _ 16 (Nat.le_refl _)
theorem NB_eq {r : Nat → List Nat} {al : Nat → Bool} {a n : Nat} (hn : n < 65536) (ha : al a = true) (h : ∀ x, x < 16 → n.testBit x = decide (x ∈ r a)) : n = NB r al a := bits_eq hn (NB_s r al a).1 fun x hx => by rw [h x hx, (NB_s r al a).2, decide_eq_true hx, ha]; rfl
theorem NB_0 {r : Nat → List Nat} {al : Nat → Bool} {a : Nat} (ha : al a = false) : NB r al a = 0 := bits_eq (NB_s r al a).1 (by omega) fun x _ => by rw [(NB_s r al a).2, ha, Nat.zero_testBit]; simp
theorem beside_cN {k : Nat} {m : Mem} {r : Nat → List Nat} {al : Nat → Bool} {a : Nat} (h : CS k m r al) (hg : Gr r al) (ha : a < 16) : fX0_bitsBeside k (o32 a) m = some (o32 (NB r al a)) := by
  cases e : al a with
  | true =>
    obtain ⟨n, n1, n2, n3⟩ := bitsBeside_c h hg ha e
    rw [n2, NB_eq n1 e n3]
  | false =>
    have g := h.2 a ha
    rw [if_neg (by rw [e]; decide)] at g
    rw [NB_0 e]
    unfold fX0_bitsBeside
    rw [sidesOf_c ha g, Option.bind_some]
    obtain ⟨z, hz⟩ : ∃ y, fu = y + 1 := ⟨fu - 1, by have := lt_fu (n := 1) (by omega); omega⟩
    rw [hz]
    exact lp_e rfl
theorem look_c {m : Mem} {r : Nat → List Nat} {al : Nat → Bool} (h : CS 0 m r al) (hg : Gr r al) : ∃ m', fX3_look 0 m = some m' ∧ (∀ c j, c ≠ 121 → c ≠ 123 → m' c j = m c j) ∧ m' 121 3 = m (cw 0 2) 0 ∧ ∀ a, a < 16 → m' 123 a = o32 (NB r al a) := by
  unfold fX3_look
  have key := lp_ix (body := lX3_look_10 0) (fun i s => s.1 = o32 i ∧ (∀ c j, c ≠ 121 → c ≠ 123 → s.2 c j = m c j) ∧ s.2 121 3 = m (cw 0 2) 0 ∧ ∀ a, a < i → s.2 123 a = o32 (NB r al a)) (fun m' => (∀ c j, c ≠ 121 → c ≠ 123 → m' c j = m c j) ∧ m' 121 3 = m (cw 0 2) 0 ∧ ∀ a, a < 16 → m' 123 a = o32 (NB r al a)) 16 0 (0, mput m 121 3 (m (cw 0 2) 0)) fu ⟨rfl, fun c j h1 _ => by dsimp only; rw [mput_c _ _ _ h1], by dsimp only; rw [mput_at], fun a ha => absurd ha (by omega)⟩ (fun i s _ hi hI => ?_) (fun s hI => ?_) (lt_fu (by omega))
  · exact key
  · obtain ⟨i1, i2, i3, i4⟩ := hI
    have hc : CS 0 s.2 r al := CS_same h (fun c j hc => i2 c j (by unfold cw at hc; omega) (by unfold cw at hc; omega))
    unfold lX3_look_10
    rw [i1, if_neg (not_16 (by omega)), beside_cN hc hg (by omega), Option.bind_some, if_pos (o_inb (by omega) (by omega)), o_tn (by omega), o_s]
    refine ⟨_, rfl, rfl, fun c j h1 h2 => ?_, ?_, fun a ha => ?_⟩
    · dsimp only
      rw [mput_c _ _ _ h2]
      exact i2 c j h1 h2
    · dsimp only
      rw [mput_c _ _ _ (by omega)]
      exact i3
    · dsimp only
      rw [mput_get]
      by_cases e : a = i
      · rw [if_pos ⟨rfl, e⟩, e]
      · rw [if_neg (fun z => e z.2)]
        exact i4 a (by omega)
  · obtain ⟨i1, i2, i3, i4⟩ := hI
    unfold lX3_look_10
    rw [i1, if_pos (show (16 : Int32) ≤ o32 (0 + 16) by decide)]
    exact ⟨_, rfl, i2, i3, i4⟩
theorem beside_mN {m : Mem} {r : Nat → List Nat} {al : Nat → Bool} {a : Nat} (h : RS m r al) (hg : Gr r al) (ha : a < 16) (e : al a = true) : fX9_besides (o32 a) m = some (o32 (NB r al a)) := by
  obtain ⟨n, n1, n2, n3⟩ := besides_s h hg ha e
  rw [n2, NB_eq n1 e n3]
/-- one wall further -/
noncomputable def nxI (B : Nat → Nat) (M : Nat) : Nat → Nat
  | 0 => 0
  | i + 1 => if M.testBit i then nxI B M i ||| B i else nxI B M i
theorem nxI_lt {B : Nat → Nat} {M : Nat} (hB : ∀ a, a < 16 → B a < 65536) : ∀ i, i ≤ 16 → nxI B M i < 65536
  | 0, _ => by unfold nxI; omega
  | i + 1, hi => by
    have h := nxI_lt (M := M) hB i (by omega)
    show (if M.testBit i then nxI B M i ||| B i else nxI B M i) < 65536
    split
    · exact Nat.or_lt_two_pow (n := 16) h (hB i (by omega))
    · exact h
theorem any_c {m : Mem} {B : Nat → Nat} {M : Nat} (hM : M < 65536) (h : ∀ a, a < 16 → m 123 a = o32 (B a)) : fX3_besideAny (o32 M) m = some (o32 (nxI B M 16)) := by
  unfold fX3_besideAny
  have key := lp_ix (body := lX3_besideAny_4 (o32 M) m) (fun i s => s.1 = o32 (nxI B M i) ∧ s.2 = o32 i) (fun e => e = o32 (nxI B M 16)) 16 0 ((0 : Int32), (0 : Int32)) fu ⟨rfl, rfl⟩ (fun i s _ hi hI => ?_) (fun s hI => ?_) (lt_fu (by omega))
  · obtain ⟨e, e1, e2⟩ := key
    rw [e1, e2]
  · obtain ⟨i1, i2⟩ := hI
    unfold lX3_besideAny_4
    rw [i1, i2, if_neg (not_16 (by omega)), bit1 (by omega) (by omega), o_s]
    cases c : M.testBit i with
    | true =>
      rw [if_pos rfl, if_pos rfl, if_pos (o_inb (by omega) (by omega)), o_tn (by omega), h i (by omega), o_or]
      exact ⟨_, rfl, by show _ = o32 (if M.testBit i then nxI B M i ||| B i else nxI B M i); rw [c, if_pos rfl], rfl⟩
    | false =>
      rw [if_neg (show ¬ false = true by decide), if_neg (show ¬ (0 : Int32) = 1 by decide)]
      exact ⟨_, rfl, by show _ = o32 (if M.testBit i then nxI B M i ||| B i else nxI B M i); rw [c, if_neg (by decide)], rfl⟩
  · obtain ⟨i1, i2⟩ := hI
    unfold lX3_besideAny_4
    rw [i1, i2, if_pos (show (16 : Int32) ≤ o32 (0 + 16) by decide)]
    exact ⟨_, rfl, rfl⟩
end
section
/-! WAY, ON -/
theorem lp_map {S E : Type} {body : S → Option (S ⊕ E)} {s : S} {n : Nat} {X : Option E} (h : body s = X.map Sum.inr) : lp body (n + 1) s = X := by
  unfold lp
  rw [h]
  cases X <;> rfl
theorem all_m {m : Mem} {r : Nat → List Nat} {al : Nat → Bool} {M : Nat} {x2 : Int32} {i : Nat} (h : RS m r al) (hg : Gr r al) (hM : M < 65536) (hal : ∀ x, x < 16 → M.testBit x = true → al x = true) : lp (lX9_way_53 x2 (o32 M) (o32 i) m) fu (o32 M, 0) = some (.inl (o32 (M ||| nxI (NB r al) M 16), o32 M, o32 (i + 1))) := by
  have key := lp_ix (body := lX9_way_53 x2 (o32 M) (o32 i) m) (fun j s => s.1 = o32 (M ||| nxI (NB r al) M j) ∧ s.2 = o32 j) (fun e => e = .inl (o32 (M ||| nxI (NB r al) M 16), o32 M, o32 (i + 1))) 16 0 (o32 M, (0 : Int32)) fu ⟨by show o32 M = o32 (M ||| 0); rw [Nat.or_zero], rfl⟩ (fun j s _ hi hI => ?_) (fun s hI => ?_) (lt_fu (by omega))
  · obtain ⟨e, e1, e2⟩ := key
    rw [e1, e2]
  · obtain ⟨i1, i2⟩ := hI
    unfold lX9_way_53
    rw [i1, i2, if_neg (not_16 (by omega)), has_bit hM (by omega), o_s]
    cases c : M.testBit j with
    | true =>
      rw [if_neg (show ¬ i01 true = 0 by decide), beside_mN h hg (by omega) (hal j (by omega) c), Option.bind_some, o_or, Nat.or_assoc]
      exact ⟨_, rfl, by show _ = o32 (M ||| (if M.testBit j then nxI (NB r al) M j ||| NB r al j else nxI (NB r al) M j)); rw [c, if_pos rfl], rfl⟩
    | false =>
      rw [if_pos (show i01 false = 0 by decide), show o32 (M ||| nxI (NB r al) M j) ||| 0 = o32 ((M ||| nxI (NB r al) M j) ||| 0) from o_or _ 0, Nat.or_zero]
      exact ⟨_, rfl, by show _ = o32 (M ||| (if M.testBit j then nxI (NB r al) M j ||| NB r al j else nxI (NB r al) M j)); rw [c, if_neg (by decide)], rfl⟩
  · obtain ⟨i1, i2⟩ := hI
    unfold lX9_way_53
    rw [i1, i2, if_pos (show (16 : Int32) ≤ o32 (0 + 16) by decide), o_s]
    exact ⟨_, rfl, rfl⟩
theorem nxI_al {r : Nat → List Nat} {al : Nat → Bool} {M : Nat} (hg : Gr r al) : ∀ i, i ≤ 16 → ∀ x, x < 16 → (nxI (NB r al) M i).testBit x = true → al x = true
  | 0, _, x, _, h => by
    unfold nxI at h
    rw [Nat.zero_testBit] at h
    exact absurd h (by decide)
  | i + 1, hi, x, hx, h => by
    have ih := nxI_al (M := M) hg i (by omega) x hx
    have h : (if M.testBit i then nxI (NB r al) M i ||| NB r al i else nxI (NB r al) M i).testBit x = true := h
    by_cases c : M.testBit i = true
    · rw [if_pos c, Nat.testBit_or] at h
      cases e : (nxI (NB r al) M i).testBit x with
      | true => exact ih e
      | false =>
        rw [e, Bool.false_or, (NB_s r al i).2, Bool.and_eq_true, Bool.and_eq_true] at h
        exact ((CS_m (k := 0) (m := fun _ _ => 0) hg (show i < 16 by omega) h.2.1 (of_decide_eq_true h.2.2)).2 (by omega)).2.1
    · rw [if_neg c] at h
      exact ih h
theorem sum_mono (f g : Nat → Nat) : ∀ n, (∀ x, x < n → f x ≤ g x) → ((List.range n).map f).sum ≤ ((List.range n).map g).sum ∧ ((∃ x, x < n ∧ f x < g x) → ((List.range n).map f).sum < ((List.range n).map g).sum)
  | 0, _ => ⟨Nat.le_refl _, fun ⟨x, h, _⟩ => absurd h (by omega)⟩
  | n + 1, h => by
    obtain ⟨i1, i2⟩ := sum_mono f g n (fun x hx => h x (by omega))
    have hn := h n (by omega)
    rw [List.range_succ, List.map_append, List.map_append, List.sum_append, List.sum_append]
    simp only [List.map_cons, List.map_nil, List.sum_cons, List.sum_nil]
    refine ⟨by omega, fun ⟨x, hx, hf⟩ => ?_⟩
    by_cases e : x = n
    · subst e; omega
    · have := i2 ⟨x, by omega, hf⟩
      omega
theorem pc_up {M N : Nat} (hM : M < 65536) (hN : N < 65536) (hne : M ||| N ≠ M) : pc M < pc (M ||| N) := by
  refine (sum_mono _ _ 16 (fun x _ => ?_)).2 ?_
  · rw [Nat.testBit_or]
    cases M.testBit x <;> cases N.testBit x <;> decide
  · have : ∃ x, x < 16 ∧ M.testBit x = false ∧ N.testBit x = true := by
      refine Classical.byContradiction fun hx => hne ?_
      refine bits_eq (Nat.or_lt_two_pow (n := 16) hM hN) hM fun x hx16 => ?_
      rw [Nat.testBit_or]
      cases a : M.testBit x with
      | true => rfl
      | false =>
        cases b : N.testBit x with
        | false => rfl
        | true => exact absurd ⟨x, hx16, a, b⟩ hx
    obtain ⟨x, x1, x2, x3⟩ := this
    exact ⟨x, x1, by rw [Nat.testBit_or, x2, x3]; decide⟩
theorem pc_16 (M : Nat) : pc M ≤ 16 := by
  have := (sum_mono (fun i => if M.testBit i then 1 else 0) (fun _ => 1) 16 (fun x _ => by split <;> omega)).1
  exact Nat.le_trans this (by decide)
theorem way_o {mc mr : Mem} (h : RLx mc mr) (x y : Int32) : Sm (fX8_way x y mc) (fX9_way x y mr) := by
  have hh := h
  obtain ⟨⟨r, al, f, q, w⟩, _⟩ := h
  have hg := WS_1 w
  unfold fX8_way fX9_way fX8_areBubbles bX9_way_16
  rcases isb w x with ⟨a1, a2⟩ | ⟨a, a1, a2, a3, a4, a5⟩
  · rw [if_pos a1, a2, if_pos rfl, Option.bind_some, if_pos rfl]
    exact err1 hh
  rw [a4, a5, if_neg one0, Option.bind_some, if_neg one0]
  rcases isb w y with ⟨b1, b2⟩ | ⟨b, b1, b2, b3, b4, b5⟩
  · rw [if_pos b1, b2, if_pos rfl, Option.bind_some, if_pos rfl]
    exact err1 hh
  rw [b4, b5, if_neg one0, if_neg one0, Option.bind_some, if_neg one0, a2, b2]
  obtain ⟨m1, k1, k2, k3, k4⟩ := look_c (WS_4 w) hg
  rw [k1, Option.bind_some]
  have R : RLx m1 mr := RL_k hh ⟨r, al, f, q, WS_same w (fun c j hc => k2 c j (by obtain ⟨o, e, _⟩ := hc; unfold cw at e; omega) (by obtain ⟨o, e, _⟩ := hc; unfold cw at e; omega)) (fun _ => rfl)⟩ (fun c j hc => k2 c j (by omega) (by omega)) MK_rf
  unfold fX3_wallsBetween
  rw [shl_tab a (by omega)]
  have B1 : ∀ M, M < 65536 → nxI (NB r al) M 16 < 65536 := fun M _ => nxI_lt (fun c _ => (NB_s r al c).1) 16 (Nat.le_refl _)
  -- a mask that stands
  have stand : ∀ M, M < 65536 → M.testBit b = false → M ||| nxI (NB r al) M 16 = M → ∀ d i z, i + d = 16 → d < z → lp (lX3_wallsBetween_7 (o32 b) m1) z (o32 M, o32 i) = some (-1) := fun M hM hb hs d => by
    induction d with
    | zero =>
      intro i z hi hz
      obtain ⟨z, rfl⟩ : ∃ y, z = y + 1 := ⟨z - 1, by omega⟩
      refine lp_e ?_
      unfold lX3_wallsBetween_7
      dsimp only
      rw [if_pos (show (16 : Int32) ≤ o32 i by rw [show i = 16 by omega]; decide)]
    | succ d ih =>
      intro i z hi hz
      obtain ⟨z, rfl⟩ : ∃ y, z = y + 1 := ⟨z - 1, by omega⟩
      have s1 : lX3_wallsBetween_7 (o32 b) m1 (o32 M, o32 i) = some (.inl (o32 M, o32 (i + 1))) := by
        unfold lX3_wallsBetween_7
        dsimp only
        rw [if_neg (not_16 (by omega)), bit1 (by omega) (by omega), hb, if_neg (show ¬ false = true by decide), if_neg (show ¬ (0 : Int32) = 1 by decide), any_c hM k4, Option.bind_some, o_or, hs, o_s]
      rw [lp_i s1]
      exact ih (i + 1) z (by omega) (by omega)
  have last : ∀ {d : Nat} (i M P z z' : Nat), i + d = 16 → d < z → d < z' → M < 65536 → M = P → M.testBit b = false → M ||| nxI (NB r al) M 16 = M → ∃ v, lp (lX3_wallsBetween_7 (o32 b) m1) z (o32 M, o32 i) = some v ∧ Sm (if 0 ≤ v then some (v, m1) else (fX8_no 2 m1).bind fun q5 => some (q5.1, q5.2)) (lp (lX9_way_33 (o32 b) mr) z' (o32 M, o32 P, o32 i)) := fun {d} i M P z z' hi hz hz' hM e1 e2 e3 => by
    refine ⟨-1, stand M hM e2 e3 d i z hi hz, ?_⟩
    subst e1
    obtain ⟨z', rfl⟩ : ∃ y, z' = y + 1 := ⟨z' - 1, by omega⟩
    have hm : lX9_way_33 (o32 b) mr (o32 M, o32 M, o32 i) = ((fX9_finding (-1000002) mr).bind fun q6 => some (q6.1, q6.2)).map Sum.inr := by
      unfold lX9_way_33 bX9_way_95
      dsimp only
      rw [has_bit hM b1, e2, if_pos (show i01 false = 0 by decide), if_pos rfl, if_pos (show i01 false = 0 by decide)]
    rw [lp_map hm, if_neg (show ¬ (0 : Int32) ≤ -1 by decide)]
    exact err2 R
  have go : ∀ d i M P z z', i + d = 16 → d < z → d < z' → M < 65536 → P < 65536 → (∀ x, x < 16 → M.testBit x = true → al x = true) → (M ≠ P ∧ i + 1 ≤ pc M) ∨ (M = P ∧ M.testBit b = false ∧ M ||| nxI (NB r al) M 16 = M) → ∃ v, lp (lX3_wallsBetween_7 (o32 b) m1) z (o32 M, o32 i) = some v ∧ Sm (if 0 ≤ v then some (v, m1) else (fX8_no 2 m1).bind fun q5 => some (q5.1, q5.2)) (lp (lX9_way_33 (o32 b) mr) z' (o32 M, o32 P, o32 i)) := fun d => by
    induction d with
    | zero =>
      intro i M P z z' hi hz hz' hM hP hal hI
      rcases hI with ⟨_, p1⟩ | ⟨e1, e2, e3⟩
      · have := pc_16 M
        exact absurd p1 (by omega)
      · exact last i M P z z' hi hz hz' hM e1 e2 e3
    | succ d ih =>
      intro i M P z z' hi hz hz' hM hP hal hI
      rcases hI with ⟨p0, p1⟩ | ⟨e1, e2, e3⟩
      · obtain ⟨z, rfl⟩ : ∃ y, z = y + 1 := ⟨z - 1, by omega⟩
        obtain ⟨z', rfl⟩ : ∃ y, z' = y + 1 := ⟨z' - 1, by omega⟩
        cases c : M.testBit b with
        | true =>
          refine ⟨o32 i, lp_e ?_, ?_⟩
          · unfold lX3_wallsBetween_7
            dsimp only
            rw [if_neg (not_16 (by omega)), bit1 (by omega) (by omega), c, if_pos rfl, if_pos rfl]
          · have hm : lX9_way_33 (o32 b) mr (o32 M, o32 P, o32 i) = some (.inr (o32 i, mr)) := by
              unfold lX9_way_33 bX9_way_95
              dsimp only
              rw [has_bit hM b1, c, if_neg (show ¬ i01 true = 0 by decide), if_neg (show ¬ i01 true = 0 by decide)]
              rfl
            rw [lp_e hm, if_pos (show (0 : Int32) ≤ o32 i by rw [show (0 : Int32) = o32 0 from rfl, o_le (by omega) (by omega)]; omega)]
            exact ⟨_, _, _, rfl, rfl, R⟩
        | false =>
          have s1 : lX3_wallsBetween_7 (o32 b) m1 (o32 M, o32 i) = some (.inl (o32 (M ||| nxI (NB r al) M 16), o32 (i + 1))) := by
            unfold lX3_wallsBetween_7
            dsimp only
            rw [if_neg (not_16 (by omega)), bit1 (by omega) (by omega), c, if_neg (show ¬ false = true by decide), if_neg (show ¬ (0 : Int32) = 1 by decide), any_c hM k4, Option.bind_some, o_or, o_s]
          have s2 : lX9_way_33 (o32 b) mr (o32 M, o32 P, o32 i) = some (.inl (o32 (M ||| nxI (NB r al) M 16), o32 M, o32 (i + 1))) := by
            have ne : ¬ o32 M = o32 P := fun e => p0 ((o_eq (by omega) (by omega)).mp e)
            unfold lX9_way_33
            dsimp only
            rw [has_bit hM b1, c, if_pos (show i01 false = 0 by decide), if_neg ne]
            exact all_m (WS_3 w) hg hM hal
          rw [lp_i s1, lp_i s2]
          have hN := B1 M hM
          refine ih (i + 1) _ M z z' (by omega) (by omega) (by omega) (Nat.or_lt_two_pow (n := 16) hM hN) hM (fun x hx hb => ?_) ?_
          · rw [Nat.testBit_or, Bool.or_eq_true] at hb
            rcases hb with hb | hb
            · exact hal x hx hb
            · exact nxI_al hg 16 (Nat.le_refl _) x hx hb
          · by_cases e : M ||| nxI (NB r al) M 16 = M
            · right
              rw [e]
              exact ⟨rfl, c, e⟩
            · left
              have := pc_up hM hN e
              exact ⟨e, by omega⟩
      · exact last i M P z z' hi hz hz' hM e1 e2 e3
  have t0 : (2 ^ a : Nat) < 65536 := Nat.pow_lt_pow_right (n := 16) (a := 2) (by omega) a1
  obtain ⟨v, v1, v2⟩ := go 16 0 (2 ^ a) 0 fu fu rfl (lt_fu (by omega)) (lt_fu (by omega)) t0 (by omega) (fun c hc hb => by
    rw [Nat.testBit_two_pow] at hb
    rw [← of_decide_eq_true hb]
    exact a3) (.inl ⟨by have := Nat.two_pow_pos a; omega, by
      have e0 : pc 0 = 0 := by decide
      have := pc_up (M := 0) (N := 2 ^ a) (by omega) t0 (by rw [Nat.zero_or]; have := Nat.two_pow_pos a; omega)
      rw [Nat.zero_or, e0] at this
      omega⟩)
  have v1 : lp (lX3_wallsBetween_7 (o32 b) m1) fu (o32 (2 ^ a), 0) = some v := v1
  rw [v1, Option.bind_some]
  exact v2
end
section
/-! AROUND -/
theorem sum_cnt {n : Nat} (g : Nat → Nat) : ∀ (l : List Nat), (∀ x ∈ l, x < n) → (l.map g).sum = ((List.range n).map (fun x => l.count x * g x)).sum
  | [], _ => by
    have : ∀ n : Nat, ((List.range n).map (fun x => ([] : List Nat).count x * g x)).sum = 0 := fun n => by
      induction n with
      | zero => rfl
      | succ n ih => rw [List.range_succ, List.map_append, List.sum_append, ih]; simp
    rw [this]; rfl
  | y :: l, h => by
    have ih := sum_cnt g l (fun x hx => h x (List.mem_cons_of_mem _ hx))
    have := sum_upd (f := fun x => l.count x * g x) (g := fun x => (y :: l).count x * g x) (b := y) n (h y List.mem_cons_self) (fun x hx => by show (y :: l).count x * g x = _; rw [List.count_cons_of_ne (Ne.symm hx)])
    simp only [List.count_cons_self, Nat.add_mul, Nat.one_mul] at this
    rw [List.map_cons, List.sum_cons]
    omega
noncomputable def CN (l : List Nat) (j : Nat) : Nat := ((List.range j).map (fun b => if b ∈ l then 1 else 0)).sum
noncomputable def SN (r : Nat → List Nat) (l : List Nat) (j : Nat) : Nat := ((List.range j).map (fun b => if b ∈ l then (r b).length else 0)).sum
theorem CN_s (l : List Nat) (j : Nat) : CN l (j + 1) = CN l j + (if j ∈ l then 1 else 0) := by
  unfold CN
  rw [List.range_succ, List.map_append, List.sum_append]
  simp
theorem SN_s (r : Nat → List Nat) (l : List Nat) (j : Nat) : SN r l (j + 1) = SN r l j + (if j ∈ l then (r j).length else 0) := by
  unfold SN
  rw [List.range_succ, List.map_append, List.sum_append]
  simp
theorem cnt_01 {l : List Nat} {x : Nat} (h : l.count x ≤ 1) : l.count x = if x ∈ l then 1 else 0 := by
  by_cases e : x ∈ l
  · rw [if_pos e]
    have := List.count_pos_iff.mpr e
    omega
  · rw [if_neg e, List.count_eq_zero_of_not_mem e]
theorem CN_len {l : List Nat} (h : ∀ x ∈ l, x ≤ 16) (hc : ∀ x, x ≠ 16 → l.count x ≤ 1) : l.length = CN l 16 + l.count 16 := by
  rw [len_sum (n := 17) l (fun x hx => by have := h x hx; omega), List.range_succ, List.map_append, List.sum_append]
  simp only [List.map_cons, List.map_nil, List.sum_cons, List.sum_nil, Nat.add_zero]
  congr 1
  unfold CN
  congr 1
  refine List.map_congr_left fun x hx => ?_
  have := List.mem_range.mp hx
  exact cnt_01 (hc x (by omega))
noncomputable def glen (r : Nat → List Nat) (x : Nat) : Nat := if x = 16 then 0 else (r x).length
theorem SN_sum {r : Nat → List Nat} {l : List Nat} (h : ∀ x ∈ l, x ≤ 16) (hc : ∀ x, x ≠ 16 → l.count x ≤ 1) : (l.map (glen r)).sum = SN r l 16 := by
  rw [sum_cnt (n := 17) _ l (fun x hx => by have := h x hx; omega), List.range_succ, List.map_append, List.sum_append]
  simp only [List.map_cons, List.map_nil, List.sum_cons, List.sum_nil, Nat.add_zero]
  rw [show glen r 16 = 0 from rfl, Nat.mul_zero, Nat.add_zero]
  unfold SN
  congr 1
  refine List.map_congr_left fun x hx => ?_
  have := List.mem_range.mp hx
  rw [cnt_01 (hc x (by omega)), show glen r x = (r x).length from if_neg (by omega)]
  split
  · rw [Nat.one_mul]
  · rw [Nat.zero_mul]
theorem ring_le {r : Nat → List Nat} {al : Nat → Bool} {a : Nat} (hg : Gr r al) (ha : a < 16) (ala : al a = true) : (∀ x ∈ r a, x ≤ 16) ∧ ∀ x, x ≠ 16 → (r a).count x ≤ 1 := ⟨fun x hx => (hg.1 a ha ala x hx).1, hg.2.1 a ha ala⟩
theorem sidesBeside_c {m : Mem} {r : Nat → List Nat} {al : Nat → Bool} {a : Nat} (h : CS 0 m r al) (hg : Gr r al) (ha : a < 16) (ala : al a = true) : fX0_sidesBeside 0 (o32 a) m = some (o32 ((r a).map (glen r)).sum) := by
  have g := CS_g h ha ala
  have la := g.1
  unfold fX0_sidesBeside
  rw [sidesOf_c ha g, Option.bind_some]
  have key := lp_ix (body := lX0_sidesBeside_11 0 (o32 a) (o32 (r a).length) m) (fun i s => s.2 = o32 i ∧ s.1 = o32 (((r a).take i).map (glen r)).sum) (fun e => e = o32 ((r a).map (glen r)).sum) (r a).length 0 ((0 : Int32), (0 : Int32)) fu ⟨rfl, by simp; rfl⟩ (fun i s _ hi hI => ?_) (fun s hI => ?_) (lt_fu (by omega))
  · obtain ⟨e, e1, e2⟩ := key
    rw [e1, e2]
  · obtain ⟨i1, i2⟩ := hI
    have hi : i < (r a).length := by omega
    have px := CS_m (k := 0) (m := m) hg ha ala (List.getElem_mem hi)
    have tk := tk1 hi
    unfold lX0_sidesBeside_11
    rw [i1, i2, if_neg (by rw [o_le (by omega) (by omega)]; omega), at_ci ha g hi, Option.bind_some]
    generalize (r a)[i] = x at px tk
    have sd : fX0_sidesOf 0 (o32 x) m = some (o32 (glen r x)) := by
      by_cases e : x = 16
      · rw [e]
        exact sidesOf_16
      · have p2 := px.2 e
        rw [sidesOf_c p2.1 (CS_g h p2.1 p2.2.1), show glen r x = (r x).length from if_neg e]
    rw [sd, Option.bind_some, o_add, o_s]
    refine ⟨_, rfl, rfl, ?_⟩
    rw [tk, List.map_append, List.sum_append]
    simp
  · obtain ⟨i1, i2⟩ := hI
    rw [Nat.zero_add] at i1 i2
    rw [List.take_length] at i2
    unfold lX0_sidesBeside_11
    rw [i1, i2, if_pos (Int32.le_refl _)]
    exact ⟨_, rfl, rfl⟩
theorem ar_in {mr : Mem} {r : Nat → List Nat} {al : Nat → Bool} {a : Nat} (h : RS mr r al) (hg : Gr r al) (ha : a < 16) (x c s : Int32) : lp (lX9_around_34 x (o32 a) mr) fu (c, s, 0) = some (.inl (if al a = true ∧ o32 (r a).length = x then (c + o32 (CN (r a) 16), s + o32 (SN r (r a) 16), o32 (a + 1)) else (c, s, o32 (a + 1)))) := by
  have key := lp_ix (body := lX9_around_34 x (o32 a) mr) (fun j t => t.2.2 = o32 j ∧ (t.1, t.2.1) = if al a = true ∧ o32 (r a).length = x then (c + o32 (CN (r a) j), s + o32 (SN r (r a) j)) else (c, s)) (fun e => e = .inl (if al a = true ∧ o32 (r a).length = x then (c + o32 (CN (r a) 16), s + o32 (SN r (r a) 16), o32 (a + 1)) else (c, s, o32 (a + 1)))) 16 0 (c, s, 0) fu ⟨rfl, ?_⟩ (fun j t _ hi hI => ?_) (fun t hI => ?_) (lt_fu (by omega))
  · obtain ⟨e, e1, e2⟩ := key
    rw [e1, e2]
  · show (c, s) = if al a = true ∧ o32 (r a).length = x then (c + 0, s + 0) else (c, s)
    rw [Int32.add_zero, Int32.add_zero]
    split <;> rfl
  · obtain ⟨i1, i2⟩ := hI
    have hj : j < 16 := by omega
    unfold lX9_around_34
    rw [i1, if_neg (not_16 hj), is_s ha h, Option.bind_some, o_s]
    cases ala : al a with
    | false =>
      rw [ala, if_neg (fun z => absurd z.1 (by decide))] at i2
      rw [if_pos (show i01 false = 0 by decide)]
      refine ⟨_, rfl, rfl, ?_⟩
      rw [if_neg (fun z => absurd z.1 (by decide))]
      exact i2
    | true =>
      have Ra := (h a ha).2 ala
      rw [ala] at i2
      rw [if_neg (show ¬ i01 true = 0 by decide), sd_o ha, Ra.2.1, Option.bind_some]
      by_cases e : o32 (r a).length = x
      · rw [if_pos ⟨rfl, e⟩] at i2
        have j1 : t.1 = c + o32 (CN (r a) j) := congrArg Prod.fst i2
        have j2 : t.2.1 = s + o32 (SN r (r a) j) := congrArg Prod.snd i2
        have no : j ∉ r a → ∃ t', (some (.inl (t.1, t.2.1, o32 (j + 1))) : Option ((Int32 × Int32 × Int32) ⊕ ((Int32 × Int32 × Int32) ⊕ (Int32 × Mem)))) = some (.inl t') ∧ t'.2.2 = o32 (j + 1) ∧ (t'.1, t'.2.1) = if true = true ∧ o32 (r a).length = x then (c + o32 (CN (r a) (j + 1)), s + o32 (SN r (r a) (j + 1))) else (c, s) := fun hn => by
          refine ⟨_, rfl, rfl, ?_⟩
          rw [if_pos ⟨rfl, e⟩, CN_s, SN_s, if_neg hn, if_neg hn, Nat.add_zero, Nat.add_zero]
          exact i2
        rw [if_pos e]
        by_cases ja : j = a
        · rw [if_pos (by rw [ja])]
          exact no (fun z => ((CS_m (k := 0) (m := mr) hg ha ala z).2 (by omega)).2.2.1 ja)
        · have ne : ¬ o32 j = o32 a := fun z => ja ((o_eq (by omega) (by omega)).mp z)
          rw [if_neg ne, is_s hj h, Option.bind_some]
          cases alj : al j with
          | false =>
            rw [if_pos (show i01 false = 0 by decide)]
            refine no (fun z => ?_)
            have := ((CS_m (k := 0) (m := mr) hg ha ala z).2 (by omega)).2.1
            rw [alj] at this
            exact absurd this (by decide)
          | true =>
            rw [if_neg (show ¬ i01 true = 0 by decide), isWall_s ha (by omega) Ra, Option.bind_some]
            by_cases hm : j ∈ r a
            · rw [if_pos hm, if_neg one0, sd_o hj, ((h j hj).2 alj).2.1, Option.bind_some, j1, j2]
              refine ⟨_, rfl, rfl, ?_⟩
              rw [if_pos ⟨rfl, e⟩, CN_s, SN_s, if_pos hm, if_pos hm, show o32 (CN (r a) j + 1) = o32 (CN (r a) j) + o32 1 from (o_add _ _).symm, show o32 (SN r (r a) j + (r j).length) = o32 (SN r (r a) j) + o32 (r j).length from (o_add _ _).symm, ← Int32.add_assoc, ← Int32.add_assoc]
              rfl
            · rw [if_neg hm, if_pos rfl]
              exact no hm
      · rw [if_neg (fun z => e z.2)] at i2
        rw [if_neg e]
        refine ⟨_, rfl, rfl, ?_⟩
        rw [if_neg (fun z => e z.2)]
        exact i2
  · obtain ⟨i1, i2⟩ := hI
    rw [Nat.zero_add] at i1 i2
    unfold lX9_around_34
    rw [i1, if_pos (show (16 : Int32) ≤ o32 16 by decide), o_s]
    refine ⟨_, rfl, ?_⟩
    by_cases e : al a = true ∧ o32 (r a).length = x
    · rw [if_pos e] at i2 ⊢
      have q1 : t.1 = c + o32 (CN (r a) 16) := congrArg Prod.fst i2
      have q2 : t.2.1 = s + o32 (SN r (r a) 16) := congrArg Prod.snd i2
      rw [q1, q2]
    · rw [if_neg e] at i2 ⊢
      have q1 : t.1 = c := congrArg Prod.fst i2
      have q2 : t.2.1 = s := congrArg Prod.snd i2
      rw [q1, q2]
theorem around_o {mc mr : Mem} (h : RLx mc mr) (x : Int32) : Sm (fX8_around x mc) (fX9_around x mr) := by
  have hh := h
  obtain ⟨⟨r, al, f, q, w⟩, _⟩ := h
  have hg := WS_1 w
  unfold fX8_around fX9_around
  rw [wi_eq]
  by_cases z : fX9_within x 0 60 = 0
  · rw [if_pos z, if_pos z]
    exact err1 hh
  rw [if_neg z, if_neg z]
  apply Sm_of
  refine lp_two (bs := lX8_around_23 x mc) (bt := lX9_around_24 x mr) (fun i s t => s.2.2 = o32 i ∧ t = s) (fun e g => e.1 = g.1 ∧ RLx e.2 g.2) 16 0 (0, 0, 0) (0, 0, 0) fu fu ⟨rfl, rfl⟩ (fun i s t _ hi hJ => ?_) (fun s t hJ => ?_) (lt_fu (by omega)) (lt_fu (by omega))
  · obtain ⟨j1, rfl⟩ := hJ
    have hi : i < 16 := by omega
    have ai := ar_in (WS_3 w) hg hi x t.1 t.2.1
    unfold lX8_around_23 lX9_around_24
    rw [j1, if_neg (not_16 hi), if_neg (not_16 hi), ai, has_c (WS_4 w) hi, o_s]
    cases ala : al i with
    | false =>
      rw [if_pos (show i01 false = 0 by decide), if_neg (fun z => absurd z.1 (by decide))]
      exact ⟨_, _, rfl, rfl, rfl, rfl⟩
    | true =>
      rw [if_neg (show ¬ i01 true = 0 by decide), if_pos (o_inb hi (by omega)), sd_c w hi ala]
      by_cases e : o32 (r i).length = x
      · have rl := ring_le hg hi ala
        have c1 := CN_len rl.1 rl.2
        rw [if_pos e, if_pos (o_inb hi (by omega)), if_pos ⟨rfl, e⟩, glasses_c hi (CS_g (WS_4 w) hi ala), Option.bind_some, sidesBeside_c (WS_4 w) hg hi ala, Option.bind_some, SN_sum rl.1 rl.2]
        have gl := (CS_g (WS_4 w) hi ala).1
        rw [show o32 (r i).length - o32 ((r i).count 16) = o32 ((r i).length - (r i).count 16) from o_sub (by omega) (by omega), show (r i).length - (r i).count 16 = CN (r i) 16 by omega]
        exact ⟨_, _, rfl, rfl, rfl, rfl⟩
      · rw [if_neg e, if_neg (fun z => e z.2)]
        exact ⟨_, _, rfl, rfl, rfl, rfl⟩
  · obtain ⟨j1, rfl⟩ := hJ
    unfold lX8_around_23 lX9_around_24
    rw [j1, if_pos (show (16 : Int32) ≤ o32 (0 + 16) by decide), if_pos (show (16 : Int32) ≤ o32 (0 + 16) by decide)]
    by_cases c : t.1 = 0
    · rw [if_pos c, if_pos c]
      obtain ⟨v, m1, m2, e1, e2, e3⟩ := err2 hh
      cases a1 : fX8_no 2 mc with
      | none => rw [a1] at e1; cases e1
      | some p =>
        cases a2 : fX9_finding (-1000002) mr with
        | none => rw [a2] at e2; cases e2
        | some p2 =>
          rw [a1, Option.bind_some] at e1
          rw [a2, Option.bind_some] at e2
          have f1 := Prod.mk.inj (Option.some.inj e1)
          have f2 := Prod.mk.inj (Option.some.inj e2)
          exact ⟨_, _, rfl, rfl, f1.1.trans f2.1.symm, by show RLx p.2 p2.2; rw [f1.2, f2.2]; exact e3⟩
    · rw [if_neg c, if_neg c, if_pos c, if_pos c]
      exact ⟨_, _, rfl, rfl, rfl, hh⟩
end
section
/-! APART: BOTH ANSWER -/
theorem apart_n (m : Mem) : ∀ n i x, i + 1 ≤ n → i ≤ 16 → ∃ v, nX3_apartIn_16 n x (o32 i - 1) 123 m = some v := by
  intro n
  induction n with
  | zero => intro i x h; omega
  | succ n ih =>
    intro i x h h16
    show ∃ v, fX3_apartIn_16 (nX3_apartIn_16 n) x (o32 i - 1) 123 m = some v
    unfold fX3_apartIn_16
    by_cases x0 : x = 0
    · rw [if_pos x0]
      exact ⟨_, rfl⟩
    rw [if_neg x0]
    by_cases i0 : i = 0
    · rw [i0, if_pos (show o32 0 - 1 < 0 by decide)]
      exact ⟨_, rfl⟩
    · obtain ⟨i, rfl⟩ : ∃ y, i = y + 1 := ⟨i - 1, by omega⟩
      have e : o32 (i + 1) - 1 = o32 i := by
        rw [show o32 (i + 1) - 1 = o32 (i + 1 - 1) from o_sub (b := 1) (by omega) (by omega), Nat.add_sub_cancel]
      have l16 : o32 i < 16 := by rw [show (16 : Int32) = o32 16 from rfl, o_lt (by omega) (by omega)]; omega
      obtain ⟨v, hv⟩ := ih i (x &&& ((jShl 1 (o32 i)) ^^^ -1)) (by omega) (by omega)
      rw [e, if_neg (not_lt0 (by omega)), if_pos l16, hv, Option.bind_some]
      split
      · exact ⟨_, rfl⟩
      · obtain ⟨v', hv'⟩ := ih i ((x &&& ((jShl 1 (o32 i)) ^^^ -1)) &&& ((m 123 (o32 i).toNatClampNeg) ^^^ -1)) (by omega) (by omega)
        rw [if_pos (o_inb (by omega) (by omega)), hv', Option.bind_some]
        split <;> exact ⟨_, rfl⟩
theorem ap100 {x1 x2 x3 x4 : Int32} {m : Mem} (fl : Int32) : ∃ e, lp (lX9_apart_100 x1 x2 x3 x4 m) fu (fl, 0) = some e ∧ (e = .inl (x3, x4 + 1) ∨ e = .inl (x4, x4 + 1)) := by
  have ex : ∀ v, ∃ e, (bX9_apart_148 x1 x2 x3 x4 v m).map (Sum.inr : _ → (Int32 × Int32) ⊕ ((Int32 × Int32) ⊕ (Int32 × Mem))) = some (.inr e) ∧ (e = .inl (x3, x4 + 1) ∨ e = .inl (x4, x4 + 1)) := fun v => by
    unfold bX9_apart_148
    split
    · exact ⟨_, rfl, .inl rfl⟩
    · exact ⟨_, rfl, .inr rfl⟩
  refine lp_inv (fun s => ∃ j, j ≤ 16 ∧ s.2 = o32 j) (fun s => 100 - s.2.toNatClampNeg) _ (fun s hI => ?_) fu (fl, 0) ⟨0, by omega, rfl⟩ (lt_fu (by show 100 - _ < _; omega))
  obtain ⟨j, j1, j2⟩ := hI
  unfold lX9_apart_100
  rw [j2]
  by_cases c : j = 16
  · right
    rw [if_pos (show (16 : Int32) ≤ o32 j by rw [c]; decide)]
    exact ex _
  · rw [if_neg (not_16 (by omega)), if_pos (o_inb (show j < 16 by omega) (by omega)), o_s]
    by_cases c0 : s.1 = 0
    · right
      rw [if_pos c0]
      exact ex _
    · left
      rw [if_neg c0]
      have st : ∀ v : Int32, ∃ s', (some (.inl (v, o32 (j + 1))) : Option ((Int32 × Int32) ⊕ ((Int32 × Int32) ⊕ (Int32 × Mem)))) = some (.inl s') ∧ (∃ j, j ≤ 16 ∧ s'.2 = o32 j) ∧ 100 - s'.2.toNatClampNeg < 100 - (o32 j).toNatClampNeg := fun v => ⟨_, rfl, ⟨j + 1, by omega, rfl⟩, by rw [o_tn (show j < 2147483648 by omega), show ((v, o32 (j + 1)) : Int32 × Int32).2 = o32 (j + 1) from rfl, o_tn (show j + 1 < 2147483648 by omega)]; omega⟩
      split
      · exact st 1
      · split
        · exact st 1
        · exact st 0
theorem ap63 {x1 : Int32} {n : Nat} {m : Mem} (hn : n < 65536) : ∃ v, lp (lX9_apart_63 x1 (o32 n) m) fu (0, 1) = some (v, m) := by
  have key := lp_inv (body := lX9_apart_63 x1 (o32 n) m) (fun s => ∃ b c, b < 65536 ∧ c ≤ n + 1 ∧ s.1 = o32 b ∧ s.2 = o32 c) (fun s => 65537 - s.2.toNatClampNeg) (fun e => ∃ v, e = (v, m)) (fun s hI => ?_) fu (0, 1) ⟨0, 1, by omega, by omega, rfl, rfl⟩ (lt_fu (by show 65537 - _ < _; omega))
  · obtain ⟨e, e1, v, e2⟩ := key
    exact ⟨v, by rw [e1, e2]⟩
  · obtain ⟨b, c, b1, c1, i1, i2⟩ := hI
    unfold lX9_apart_63
    rw [i1, i2]
    by_cases g : c = n + 1
    · right
      rw [if_pos (by rw [o_lt (by omega) (by omega)]; omega), bits_s b1, Option.bind_some]
      split <;> exact ⟨_, rfl, _, rfl⟩
    · left
      have nl : ¬ o32 n < o32 c := by rw [o_lt (by omega) (by omega)]; omega
      have st : ∀ fl, ∃ s', lp (lX9_apart_100 x1 (o32 n) (o32 b) (o32 c) m) fu (fl, 0) = some (.inl s') ∧ (∃ b c, b < 65536 ∧ c ≤ n + 1 ∧ s'.1 = o32 b ∧ s'.2 = o32 c) ∧ 65537 - s'.2.toNatClampNeg < 65537 - (o32 c).toNatClampNeg := fun fl => by
        obtain ⟨e, e1, e2⟩ := ap100 (x1 := x1) (x2 := o32 n) (x3 := o32 b) (x4 := o32 c) (m := m) fl
        have mu : ∀ y : Int32, 65537 - ((y, o32 c + 1) : Int32 × Int32).2.toNatClampNeg < 65537 - (o32 c).toNatClampNeg := fun y => by
          rw [show ((y, o32 c + 1) : Int32 × Int32).2 = o32 (c + 1) from o_s c, o_tn (show c + 1 < 2147483648 by omega), o_tn (show c < 2147483648 by omega)]
          omega
        rcases e2 with e2 | e2
        · exact ⟨(o32 b, o32 c + 1), by rw [e1, e2], ⟨b, c + 1, b1, by omega, rfl, o_s c⟩, mu _⟩
        · exact ⟨(o32 c, o32 c + 1), by rw [e1, e2], ⟨c, c + 1, by omega, by omega, rfl, o_s c⟩, mu _⟩
      rw [if_neg nl, bits_s b1, bits_s (show c < 65536 by omega), Option.bind_some, Option.bind_some]
      split
      · split
        · exact st 0
        · exact st 1
      · exact st 0
theorem RL_look {mc mr m1 mr1 : Mem} (h : RLx mc mr) (c : ∀ a j, (a < 119 ∨ 129 ≤ a ∨ (a = 125 ∧ j = 1)) → m1 a j = mc a j) (k : ∀ a j, ¬ (148 ≤ a ∧ a ≤ 149) → mr1 a j = mr a j) : RLx m1 mr1 := by
  have hh := h
  obtain ⟨⟨r, al, f, q, w⟩, _⟩ := h
  exact RL_k hh ⟨r, al, f, q, WS_same w (fun a j ha => c a j (by obtain ⟨o, e, ho⟩ := ha; unfold cw at e; omega)) (fun j => k 138 j (by omega))⟩ (fun a j ha => c a j (by omega)) (fun a j ha => k a j (by omega))
theorem apart_o {mc mr : Mem} (h : RLx mc mr) (x : Int32) : Df (fX8_apart x mc) (fX9_apart x mr) := by
  have hh := h
  obtain ⟨⟨r, al, f, q, w⟩, _⟩ := h
  have hg := WS_1 w
  unfold fX8_apart fX9_apart
  rw [wi_eq]
  by_cases z : fX9_within x 0 1 = 0
  · rw [if_pos z, if_pos z]
    exact Sm_Df (err1 hh)
  rw [if_neg z, if_neg z]
  obtain ⟨m1, k1, k2, k3, k4⟩ := look_c (WS_4 w) hg
  obtain ⟨v, hv⟩ := apart_n m1 18 16 (m1 121 3) (by omega) (by omega)
  have hv : nX3_apartIn_16 18 (m1 121 3) 15 123 m1 = some v := hv
  have A : ∃ v, ((fX3_look 0 mc).bind fun q3 => (fX3_mostApart q3).bind fun q4 => (if x = 0 then some ((fJ6_bitCount_0f7a4 q4), q3) else some (q4, q3))) = some (v, m1) := by
    unfold fX3_mostApart
    rw [k1, Option.bind_some, hv, Option.bind_some, Option.bind_some]
    split <;> exact ⟨_, rfl⟩
  obtain ⟨n, n1, n2, n3⟩ := there_s (WS_3 w)
  have B : ∃ v mr1, lp (lX9_apart_23 x (o32 n)) fu (0, mr) = some (v, mr1) ∧ ∀ c j, c ≠ 149 → mr1 c j = mr c j := by
    have key := lp_ix (body := lX9_apart_23 x (o32 n)) (fun i s => s.1 = o32 i ∧ ∀ c j, c ≠ 149 → s.2 c j = mr c j) (fun e => ∀ c j, c ≠ 149 → e.2 c j = mr c j) 16 0 (0, mr) fu ⟨rfl, fun _ _ _ => rfl⟩ (fun i s _ hi hI => ?_) (fun s hI => ?_) (lt_fu (by omega))
    · obtain ⟨e, e1, e2⟩ := key
      exact ⟨e.1, e.2, e1, e2⟩
    · obtain ⟨i1, i2⟩ := hI
      have hs : RS s.2 r al := RS_same (WS_3 w) (fun j _ _ => i2 138 j (by omega))
      have fin : ∀ v, ∃ s', bX9_apart_51 x (o32 n) (o32 i) (o32 i) v s.2 = some (.inl s') ∧ s'.1 = o32 (i + 1) ∧ ∀ c j, c ≠ 149 → s'.2 c j = mr c j := fun v => by
        unfold bX9_apart_51
        rw [if_pos (o_inb (by omega) (by omega)), o_s]
        exact ⟨_, rfl, rfl, fun c j hc => by dsimp only; rw [mput_c _ _ _ hc]; exact i2 c j hc⟩
      unfold lX9_apart_23
      rw [i1, if_neg (not_16 (by omega)), is_s (by omega) hs, Option.bind_some]
      cases ala : al i with
      | false =>
        rw [if_pos (show i01 false = 0 by decide)]
        exact fin _
      | true =>
        rw [if_neg (show ¬ i01 true = 0 by decide), beside_mN hs hg (by omega) ala, Option.bind_some]
        exact fin _
    · obtain ⟨i1, i2⟩ := hI
      obtain ⟨v, hv⟩ := ap63 (x1 := x) (m := s.2) n1
      unfold lX9_apart_23
      rw [i1, if_pos (show (16 : Int32) ≤ o32 (0 + 16) by decide), hv]
      exact ⟨_, rfl, i2⟩
  obtain ⟨v1, e1⟩ := A
  obtain ⟨v2, mr1, e2, e3⟩ := B
  rw [n2, Option.bind_some]
  exact ⟨v1, v2, m1, mr1, e1, e2, RL_look hh (fun a j ha => k2 a j (by omega) (by omega)) (fun a j ha => e3 a j (by omega))⟩
end
section
/-! COLOUR: BOTH ANSWER -/
theorem RL_any {mc mr m1 mr1 : Mem} (h : RLx mc mr) (c : ∀ a j, (a < 119 ∨ (129 ≤ a ∧ a ≤ 135) ∨ (a = 125 ∧ j = 1)) → m1 a j = mc a j) (k : ∀ a j, (a = 138 ∨ a = 139 ∨ (a = 137 ∧ (j = 3 ∨ j = 19)) ∨ (151 ≤ a ∧ a ≤ 153)) → mr1 a j = mr a j) : RLx m1 mr1 := by
  have hh := h
  obtain ⟨⟨r, al, f, q, w⟩, _⟩ := h
  exact RL_k hh ⟨r, al, f, q, WS_same w (fun a j ha => c a j (by obtain ⟨o, e, ho⟩ := ha; unfold cw at e; omega)) (fun j => k 138 j (by omega))⟩ (fun a j ha => c a j (by omega)) (fun a j ha => k a j (by omega))
noncomputable def P12 (m m' : Mem) : Prop := ∀ c j, c ≠ 122 → c ≠ 124 → m' c j = m c j
theorem min4 (y : Int32) : fJ9_min_7cf53 4 y ≤ 4 := by
  unfold fJ9_min_7cf53
  split
  · rename_i h
    exact Int32.le_of_lt h
  · exact Int32.le_refl _
theorem paint_n : ∀ n i x2 x3 m, 17 ≤ i + n → i ≤ 16 → 1 ≤ n → ∃ v m', nX3_paintFrom n (o32 i) x2 x3 m = some (v, m') ∧ (v = 0 ∨ v = 1) ∧ P12 m m' := by
  intro n
  induction n with
  | zero => intro i x2 x3 m h h16 h1; omega
  | succ n ih =>
    intro i x2 x3 m h h16 h1
    show ∃ v m', fX3_paintFrom (nX3_paintFrom n) (o32 i) x2 x3 m = some (v, m') ∧ _
    unfold fX3_paintFrom
    rw [if_neg (not_lt0 (by omega))]
    by_cases c : i = 16
    · rw [if_neg (show ¬ o32 i < 16 by rw [c]; decide)]
      exact ⟨_, _, rfl, .inr rfl, fun _ _ _ _ => rfl⟩
    · have l16 : o32 i < 16 := by rw [show (16 : Int32) = o32 16 from rfl, o_lt (by omega) (by omega)]; omega
      rw [if_pos l16]
      split
      · obtain ⟨v, m', e1, e2, e3⟩ := ih (i + 1) x2 x3 m (by omega) (by omega) (by omega)
        rw [o_s, e1, Option.bind_some, if_pos e2]
        exact ⟨v, m', rfl, e2, e3⟩
      · have le4 := min4 (fJ9_min_7cf53 x2 (x3 + 1))
        generalize fJ9_min_7cf53 4 (fJ9_min_7cf53 x2 (x3 + 1)) = x4 at le4
        have key := lp_inv (body := lX3_paintFrom_49 (nX3_paintFrom n) (o32 i) x2 x3 x4) (fun s => (∃ j, j ≤ 4 ∧ s.1 = o32 j) ∧ P12 m s.2) (fun s => 5 - s.1.toNatClampNeg) (fun e => (e.1 = 0 ∨ e.1 = 1) ∧ P12 m e.2) (fun s hI => ?_) fu (0, m) ⟨⟨0, by omega, rfl⟩, fun _ _ _ _ => rfl⟩ (lt_fu (by show 5 - _ < _; omega))
        · obtain ⟨e, e1, e2, e3⟩ := key
          exact ⟨e.1, e.2, e1, e2, e3⟩
        · obtain ⟨⟨j, j1, j2⟩, hP⟩ := hI
          unfold lX3_paintFrom_49
          rw [j2]
          by_cases g : x4 ≤ o32 j
          · right
            rw [if_pos g]
            exact ⟨_, rfl, .inl rfl, hP⟩
          · have j4 : j < 4 := by
              refine Classical.byContradiction fun hh => g ?_
              rw [show j = 4 by omega]
              exact le4
            have st : ∀ M, P12 m M → ∃ s' : Int32 × Mem, (some (.inl (o32 j + 1, M)) : Option ((Int32 × Mem) ⊕ (Int32 × Mem))) = some (.inl s') ∧ ((∃ j, j ≤ 4 ∧ s'.1 = o32 j) ∧ P12 m s'.2) ∧ 5 - s'.1.toNatClampNeg < 5 - (o32 j).toNatClampNeg := fun M hM => ⟨(o32 j + 1, M), rfl, ⟨⟨j + 1, by omega, o_s j⟩, hM⟩, by rw [show ((o32 j + 1, M) : Int32 × Mem).1 = o32 (j + 1) from o_s j, o_tn (show j + 1 < 2147483648 by omega), o_tn (show j < 2147483648 by omega)]; omega⟩
            rw [if_neg g, if_pos (o_inb (show j < 4 by omega) (by omega)), if_pos (o_inb (show i < 16 by omega) (by omega)), if_pos (o_inb (show j < 4 by omega) (by omega)), if_pos (o_inb (show j < 4 by omega) (by omega)), if_pos (o_inb (show i < 16 by omega) (by omega))]
            split
            · obtain ⟨v, m', e1, e2, e3⟩ := ih (i + 1) x2 (fJ9_max_7cf53 x3 (o32 j + 1)) (mput (mput s.2 124 (o32 j).toNatClampNeg ((s.2 124 (o32 j).toNatClampNeg) ||| (jShl 1 (o32 i)))) 122 (o32 i).toNatClampNeg (o32 j)) (by omega) (by omega) (by omega)
              have hM : P12 m m' := fun c j a b => by
                rw [e3 c j a b, mput_c _ _ _ a, mput_c _ _ _ b]
                exact hP c j a b
              rw [o_s i, e1, Option.bind_some]
              rcases e2 with e2 | e2
              · left
                rw [if_pos e2, if_pos (o_inb (show j < 4 by omega) (by omega)), if_pos (o_inb (show j < 4 by omega) (by omega))]
                exact st _ (fun c j a b => by dsimp only; rw [mput_c _ _ _ b]; exact hM c j a b)
              · right
                rw [if_neg (show ¬ v = 0 by rw [e2]; decide)]
                exact ⟨_, rfl, .inr rfl, hM⟩
            · left
              exact st _ hP
theorem mayBe_s {mr : Mem} {r : Nat → List Nat} {al : Nat → Bool} {a : Nat} (h : RS mr r al) (ha : a < 16) (ala : al a = true) (x : Int32) : ∃ v, fX9_mayBe (o32 a) x mr = some v := by
  unfold fX9_mayBe
  have key := lp_ix (body := lX9_mayBe_5 (o32 a) x mr) (fun i s => s.2 = o32 i ∧ (s.1 = 0 ∨ s.1 = 1)) (fun _ => True) a 0 (1, 0) fu ⟨rfl, .inr rfl⟩ (fun i s _ hi hI => ?_) (fun s hI => ?_) (lt_fu (by omega))
  · obtain ⟨e, e1, _⟩ := key
    exact ⟨e, e1⟩
  · obtain ⟨i1, i2⟩ := hI
    have hi : i < 16 := by omega
    unfold lX9_mayBe_5
    rw [i1, if_neg (show ¬ o32 a ≤ o32 i by rw [o_le (by omega) (by omega)]; omega), is_s hi h, Option.bind_some, isWall_s ha (by omega) ((h a ha).2 ala), Option.bind_some, if_pos (o_inb hi (by omega)), o_s]
    generalize (if i ∈ r a then (1 : Int32) else 0) = wl
    have s0 : ∃ s', (some (.inl ((0 : Int32), o32 (i + 1))) : Option ((Int32 × Int32) ⊕ Int32)) = some (.inl s') ∧ s'.2 = o32 (i + 1) ∧ (s'.1 = 0 ∨ s'.1 = 1) := ⟨_, rfl, rfl, .inl rfl⟩
    have s1 : ∃ s', (some (.inl ((1 : Int32), o32 (i + 1))) : Option ((Int32 × Int32) ⊕ Int32)) = some (.inl s') ∧ s'.2 = o32 (i + 1) ∧ (s'.1 = 0 ∨ s'.1 = 1) := ⟨_, rfl, rfl, .inr rfl⟩
    split
    · exact s0
    · split
      · exact s1
      · split
        · exact s1
        · split
          · exact s0
          · exact s1
  · obtain ⟨i1, i2⟩ := hI
    unfold lX9_mayBe_5
    rw [Nat.zero_add] at i1
    rw [i1, if_pos (Int32.le_refl _), if_pos i2]
    exact ⟨_, rfl, trivial⟩
theorem coloured_n {mr : Mem} {r : Nat → List Nat} {al : Nat → Bool} {k : Nat} (hs : RS mr r al) (hk : k < 100) : ∀ n i m, 17 ≤ i + n → i ≤ 16 → 1 ≤ n → (∀ c j, c ≠ 148 → m c j = mr c j) → ∃ v m', nX9_coloured n (o32 i) (o32 k) m = some (v, m') ∧ (v = 0 ∨ v = 1) ∧ ∀ c j, c ≠ 148 → m' c j = mr c j := by
  intro n
  induction n with
  | zero => intro i m h h16 h1; omega
  | succ n ih =>
    intro i m h h16 h1 hm
    have hS : ∀ M : Mem, (∀ c j, c ≠ 148 → M c j = mr c j) → RS M r al := fun M h => RS_same hs (fun j _ _ => h 138 j (by omega))
    show ∃ v m', fX9_coloured (nX9_coloured n) (o32 i) (o32 k) m = some (v, m') ∧ _
    unfold fX9_coloured
    by_cases c : i = 16
    · rw [if_pos (show o32 i = 16 by rw [c]; rfl)]
      exact ⟨_, _, rfl, .inr rfl, hm⟩
    · have ne : ¬ o32 i = 16 := fun e => c ((o_eq (b := 16) (by omega) (by omega)).mp e)
      have hi : i < 16 := by omega
      rw [if_neg ne, is_s hi (hS m hm), Option.bind_some]
      cases ala : al i with
      | false =>
        obtain ⟨v, m', e1, e2, e3⟩ := ih (i + 1) m (by omega) (by omega) (by omega) hm
        rw [if_pos (show i01 false = 0 by decide), o_s, e1, Option.bind_some, if_pos e2]
        exact ⟨v, m', rfl, e2, e3⟩
      | true =>
        rw [if_neg (show ¬ i01 true = 0 by decide)]
        have key := lp_inv (body := lX9_coloured_27 (nX9_coloured n) (o32 i) (o32 k)) (fun s => (∃ j, j ≤ k ∧ s.1 = o32 j) ∧ ∀ c j, c ≠ 148 → s.2 c j = mr c j) (fun s => 200 - s.1.toNatClampNeg) (fun e => (e.1 = 0 ∨ e.1 = 1) ∧ ∀ c j, c ≠ 148 → e.2 c j = mr c j) (fun s hI => ?_) fu (0, m) ⟨⟨0, by omega, rfl⟩, hm⟩ (lt_fu (by show 200 - _ < _; omega))
        · obtain ⟨e, e1, e2, e3⟩ := key
          exact ⟨e.1, e.2, e1, e2, e3⟩
        · obtain ⟨⟨j, j1, j2⟩, hP⟩ := hI
          unfold lX9_coloured_27
          rw [j2]
          by_cases g : j = k
          · right
            rw [if_pos (show o32 k ≤ o32 j by rw [g]; exact Int32.le_refl _)]
            exact ⟨_, rfl, .inl rfl, hP⟩
          · have ng : ¬ o32 k ≤ o32 j := by rw [o_le (by omega) (by omega)]; omega
            have st : ∀ M : Mem, (∀ c j, c ≠ 148 → M c j = mr c j) → ∃ s' : Int32 × Mem, (some (.inl (o32 j + 1, M)) : Option ((Int32 × Mem) ⊕ (Int32 × Mem))) = some (.inl s') ∧ ((∃ j, j ≤ k ∧ s'.1 = o32 j) ∧ ∀ c j, c ≠ 148 → s'.2 c j = mr c j) ∧ 200 - s'.1.toNatClampNeg < 200 - (o32 j).toNatClampNeg := fun M hM => ⟨(o32 j + 1, M), rfl, ⟨⟨j + 1, by omega, o_s j⟩, hM⟩, by rw [show ((o32 j + 1, M) : Int32 × Mem).1 = o32 (j + 1) from o_s j, o_tn (show j + 1 < 2147483648 by omega), o_tn (show j < 2147483648 by omega)]; omega⟩
            obtain ⟨b, hb⟩ := mayBe_s (hS s.2 hP) hi ala (o32 j)
            rw [if_neg ng, hb, Option.bind_some]
            split
            · left
              exact st _ hP
            · obtain ⟨v, m', e1, e2, e3⟩ := ih (i + 1) (mput s.2 148 (o32 i).toNatClampNeg (o32 j)) (by omega) (by omega) (by omega) (fun c j hc => by rw [mput_c _ _ _ hc]; exact hP c j hc)
              rw [if_pos (o_inb hi (by omega)), o_s i, e1, Option.bind_some]
              rcases e2 with e2 | e2
              · left
                rw [if_pos e2]
                exact st _ e3
              · right
                rw [if_neg (show ¬ v = 0 by rw [e2]; decide)]
                exact ⟨_, rfl, .inr rfl, e3⟩
theorem colour_o {mc mr : Mem} (h : RLx mc mr) (x y : Int32) : Df (fX8_colour x y mc) (fX9_colour x y mr) := by
  have hh := h
  obtain ⟨⟨r, al, f, q, w⟩, _⟩ := h
  have hg := WS_1 w
  unfold fX8_colour fX9_colour bX8_colour_23 bX9_colour_17
  rw [wi_eq]
  rcases win (l := 1) (h := 4) (by omega) (by omega) x with z | ⟨k, k1, k2, rfl, k4⟩
  · rw [if_pos (show fX9_within x 1 4 = 0 from z), if_pos (show fX9_within x 1 4 = 0 from z)]
    exact Sm_Df (err1 hh)
  have z : ¬ fX9_within (o32 k) 1 4 = 0 := by rw [show fX9_within (o32 k) 1 4 = 1 from k4]; exact one0
  rw [if_neg z, if_neg z]
  rcases isb w y with ⟨a1, a2⟩ | ⟨a, a1, a2, a3, a4, a5⟩
  · rw [if_pos a1, a2, Option.bind_some, if_pos rfl]
    exact Sm_Df (err1 hh)
  rw [a4, a5, if_neg one0, Option.bind_some, if_neg one0, a2]
  obtain ⟨m1, l1, l2, l3, l4⟩ := look_c (WS_4 w) hg
  have fl : ∃ m2, fJ7_fill_53178_4 124 0 m1 = some m2 ∧ ∀ c j, c ≠ 124 → m2 c j = m1 c j := by
    unfold fJ7_fill_53178_4
    have key := lp_ix (body := lJ7_fill_53178_4_5 124 0 4) (fun i s => s.1 = o32 i ∧ ∀ c j, c ≠ 124 → s.2 c j = m1 c j) (fun e => ∀ c j, c ≠ 124 → e c j = m1 c j) 4 0 (0, m1) fu ⟨rfl, fun _ _ _ => rfl⟩ (fun i s _ hi hI => ?_) (fun s hI => ?_) (lt_fu (by omega))
    · exact key
    · obtain ⟨i1, i2⟩ := hI
      unfold lJ7_fill_53178_4_5
      have n4 : ¬ (4 : Int32) ≤ o32 i := by rw [show (4 : Int32) = o32 4 from rfl, o_le (by omega) (by omega)]; omega
      rw [i1, if_neg n4, if_pos (o_inb (show i < 4 by omega) (by omega)), o_s]
      exact ⟨_, rfl, rfl, fun c j hc => by dsimp only; rw [mput_c _ _ _ hc]; exact i2 c j hc⟩
    · obtain ⟨i1, i2⟩ := hI
      unfold lJ7_fill_53178_4_5
      rw [i1, if_pos (show (4 : Int32) ≤ o32 (0 + 4) by decide)]
      exact ⟨_, rfl, i2⟩
  obtain ⟨m2, f1, f2⟩ := fl
  obtain ⟨v, m3, p1, p2, p3⟩ := paint_n 18 0 (o32 k) 0 m2 (by omega) (by omega) (by omega)
  have p1 : nX3_paintFrom 18 0 (o32 k) 0 m2 = some (v, m3) := p1
  obtain ⟨u, m4, c1, c2, c3⟩ := coloured_n (k := k) (WS_3 w) (by omega) 18 0 mr (by omega) (by omega) (by omega) (fun _ _ _ => rfl)
  have c1 : nX9_coloured 18 0 (o32 k) mr = some (u, m4) := c1
  unfold fX3_canPaint
  rw [l1, Option.bind_some, f1, Option.bind_some, p1, Option.bind_some, if_pos p2, Option.bind_some, c1, Option.bind_some, if_pos (o_inb (show a < 16 by omega) (by omega)), if_pos (o_inb (show a < 16 by omega) (by omega))]
  have A : ∃ v' m', (if v = 0 then (fX8_no 2 m3).bind fun q6 => some (q6.1, q6.2) else some (m3 122 (o32 a).toNatClampNeg, m3)) = some (v', m') ∧ ∀ c j, c ≠ 136 → m' c j = m3 c j := by
    rw [show fX8_no 2 m3 = _ from no_c (i := 2) (by omega)]
    split
    · exact ⟨_, _, rfl, fun c j hc => by dsimp only; rw [mput_c _ _ _ hc]⟩
    · exact ⟨_, _, rfl, fun _ _ _ => rfl⟩
  have B : ∃ v' m', (if u = 0 then (fX9_finding (-1000002) m4).bind fun q5 => some (q5.1, q5.2) else some (m4 148 (o32 a).toNatClampNeg, m4)) = some (v', m') ∧ ∀ c j, c ≠ 141 → m' c j = m4 c j := by
    rw [fnd_m (i := 2) (by omega) (by decide)]
    split
    · exact ⟨_, _, rfl, fun c j hc => by dsimp only; rw [mput_c _ _ _ hc]⟩
    · exact ⟨_, _, rfl, fun _ _ _ => rfl⟩
  obtain ⟨v5, m5, a7, a8⟩ := A
  obtain ⟨v6, m6, b7, b8⟩ := B
  exact ⟨v5, v6, m5, m6, a7, b7, RL_any hh (fun c j hc => by rw [a8 c j (by omega), p3 c j (by omega) (by omega), f2 c j (by omega)]; exact l2 c j (by omega) (by omega)) (fun c j hc => by rw [b8 c j (by omega)]; exact c3 c j (by omega))⟩
end

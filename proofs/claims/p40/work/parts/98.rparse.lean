section
/-! BOTH READERS: ONE BYTE, ONE NOTE -/
noncomputable def CX (u sz : Nat) (B : Nat → Nat) (m0 mr0 : Mem) : Prop := u < 3 ∧ sz ≤ 60 ∧ (∀ j, j < sz → B j ≤ 255) ∧ m0 118 4 = o32 sz ∧ m0 118 5 = o32 (11 + u) ∧ (∀ j, j < sz → m0 120 j = o32 (B j)) ∧ mr0 138 1 = o32 sz ∧ (∀ j, j < sz → mr0 138 (812 + j) = o32 (B j)) ∧ mr0 137 9 = o32 u
noncomputable def FRm (m0 mr0 m mr : Mem) : Prop := (∀ c j, c ≠ 119 → ¬ (c = 118 ∧ (j = 0 ∨ j = 1 ∨ j = 6)) → m c j = m0 c j) ∧ ∀ c j, c ≠ 144 → ¬ (c = 137 ∧ (j = 7 ∨ j = 8 ∨ j = 10 ∨ j = 12)) → mr c j = mr0 c j
noncomputable def GD (sz : Nat) (m0 mr0 : Mem) (o p : Nat) (L : List Nat) (m mr : Mem) : Prop := FRm m0 mr0 m mr ∧ p ≤ sz ∧ m 118 0 = o32 p ∧ mr 137 7 = o32 p ∧ m 118 6 = 0 ∧ mr 137 10 = 0 ∧ mr 137 8 = o32 o ∧ L.length ≤ p ∧ m 118 1 = o32 L.length ∧ mr 137 12 = o32 L.length ∧ ∀ i, (h : i < L.length) → m 119 i = ctok L[i] ∧ mr 144 i = o32 L[i]
noncomputable def BD (sz : Nat) (m0 mr0 m mr : Mem) : Prop := FRm m0 mr0 m mr ∧ (∃ p, p ≤ sz ∧ m 118 0 = o32 p ∧ mr 137 7 = o32 p) ∧ m 118 6 = 1 ∧ mr 137 10 = 1 ∧ ∃ n, n ≤ 60 ∧ m 118 1 = o32 n
noncomputable def bt (sz : Nat) (B : Nat → Nat) (p : Nat) : Int32 := if p < sz then o32 (B p) else -1
theorem nx_g {u sz o p : Nat} {B : Nat → Nat} {m0 mr0 m mr : Mem} {L : List Nat} (X : CX u sz B m0 mr0) (h : GD sz m0 mr0 o p L m mr) : fX2_next m = some (bt sz B p) ∧ fX9_here mr = some (bt sz B p) := by
  obtain ⟨x1, x2, x3, x4, x5, x6, x7, x8, x9⟩ := X
  obtain ⟨⟨f1, f2⟩, h1, h2, h3, h4, h5, h6, h7, h8, h9, h10⟩ := h
  have s4 : m 118 4 = o32 sz := (f1 118 4 (by omega) (by omega)).trans x4
  have s1 : mr 138 1 = o32 sz := (f2 138 1 (by omega) (by omega)).trans x7
  unfold fX2_next fX9_here bt
  rw [h2, h3, h4, h5, s4, s1, if_pos rfl, if_pos rfl, if_neg (not_lt0 (by omega))]
  by_cases c : p < sz
  · have nle : ¬ o32 sz ≤ o32 p := by rw [o_le (by omega) (by omega)]; omega
    have n60 : ¬ (60 : Int32) ≤ o32 p := by rw [show (60 : Int32) = o32 60 from rfl, o_le (by omega) (by omega)]; omega
    rw [if_neg nle, if_neg n60, if_pos (o_inb (show p < 60 by omega) (by omega)), if_neg nle, show (812 : Int32) + o32 p = o32 (812 + p) from o_add 812 p, if_pos (o_inb (show 812 + p < 1082 by omega) (by omega)), o_tn (show p < 2147483648 by omega), o_tn (show 812 + p < 2147483648 by omega), f1 120 p (by omega) (by omega), f2 138 (812 + p) (by omega) (by omega), x6 p c, x8 p c, if_pos c]
    exact ⟨rfl, rfl⟩
  · have le : o32 sz ≤ o32 p := by rw [o_le (by omega) (by omega)]; omega
    rw [if_pos le, if_pos le, if_neg c]
    exact ⟨rfl, rfl⟩
theorem nx_b {sz : Nat} {m0 mr0 m mr : Mem} (h : BD sz m0 mr0 m mr) : fX2_next m = some (-1) ∧ fX9_here mr = some (-1) := by
  obtain ⟨_, _, h1, h2, _⟩ := h
  unfold fX2_next fX9_here
  rw [h1, h2, if_neg one0, if_neg one0]
  exact ⟨rfl, rfl⟩
theorem mput_self {m : Mem} {c j : Nat} {x : Int32} (h : m c j = x) : mput m c j x = m := by
  funext a b
  rw [mput_get]
  by_cases e : a = c ∧ b = j
  · rw [if_pos e, e.1, e.2, h]
  · rw [if_neg e]
theorem bt_255 {u sz p : Nat} {B : Nat → Nat} {m0 mr0 : Mem} (X : CX u sz B m0 mr0) {n : Nat} (hn : n < 1000) : bt sz B p = o32 n ↔ p < sz ∧ B p = n := by
  unfold bt
  by_cases c : p < sz
  · have := X.2.2.1 p c
    rw [if_pos c, o_eq (by omega) (by omega)]
    exact ⟨fun z => ⟨c, z⟩, fun z => z.2⟩
  · rw [if_neg c]
    exact ⟨fun z => absurd z.symm (o_neg1 (by omega)), fun z => absurd z.1 c⟩
theorem nI_g {u sz o p n : Nat} {B : Nat → Nat} {m0 mr0 m mr : Mem} {L : List Nat} (X : CX u sz B m0 mr0) (h : GD sz m0 mr0 o p L m mr) (x : Int32) : fX2_nextIs x m = some (if bt sz B p = x then 1 else 0) := by
  unfold fX2_nextIs
  rw [(nx_g X h).1, Option.bind_some]
  split <;> rfl
theorem nI_b {sz : Nat} {m0 mr0 m mr : Mem} (h : BD sz m0 mr0 m mr) {x : Int32} (hx : ¬ (-1 : Int32) = x) : fX2_nextIs x m = some 0 := by
  unfold fX2_nextIs
  rw [(nx_b h).1, Option.bind_some, if_neg hx]
theorem tk_g {u sz o p : Nat} {B : Nat → Nat} {m0 mr0 m mr : Mem} {L : List Nat} (X : CX u sz B m0 mr0) (h : GD sz m0 mr0 o p L m mr) (x : Int32) : fX9_takes x mr = some (if bt sz B p = x then (1, mput mr 137 7 (o32 (p + 1))) else (0, mr)) := by
  have h7 := h.2.2.2.1
  unfold fX9_takes bX9_takes_13 bX9_takes_28
  rw [(nx_g X h).2, Option.bind_some, h7]
  by_cases c : bt sz B p = x
  · rw [if_pos c, if_pos c, if_neg one0, if_pos (.inr rfl), o_s]
  · rw [if_neg c, if_neg c, if_pos rfl, if_pos (.inl rfl), show o32 p + 0 = o32 p from o_add p 0, mput_self h7]
theorem tk_b {sz : Nat} {m0 mr0 m mr : Mem} (h : BD sz m0 mr0 m mr) {x : Int32} (hx : ¬ (-1 : Int32) = x) : fX9_takes x mr = some (0, mr) := by
  obtain ⟨p, _, _, h7⟩ := h.2.1
  unfold fX9_takes bX9_takes_13 bX9_takes_28
  rw [(nx_b h).2, Option.bind_some, h7, if_neg hx, if_pos rfl, if_pos (.inl rfl), show o32 p + 0 = o32 p from o_add p 0, mput_self h7]
/-- one byte on -/
theorem adv_g {sz o p : Nat} {m0 mr0 m mr : Mem} {L : List Nat} (h : GD sz m0 mr0 o p L m mr) (hp : p < sz) : GD sz m0 mr0 o (p + 1) L (mput m 118 0 (m 118 0 + 1)) (mput mr 137 7 (o32 (p + 1))) := by
  obtain ⟨⟨f1, f2⟩, h1, h2, h3, h4, h5, h6, h7, h8, h9, h10⟩ := h
  refine ⟨⟨fun c j a b => by rw [mput_get, if_neg (by omega)]; exact f1 c j a b, fun c j a b => by rw [mput_get, if_neg (by omega)]; exact f2 c j a b⟩, by omega, by rw [mput_at, h2, o_s], by rw [mput_at], ?_, ?_, ?_, by omega, ?_, ?_, fun i hi => ?_⟩
  · rw [mput_get, if_neg (by omega)]; exact h4
  · rw [mput_get, if_neg (by omega)]; exact h5
  · rw [mput_get, if_neg (by omega)]; exact h6
  · rw [mput_get, if_neg (by omega)]; exact h8
  · rw [mput_get, if_neg (by omega)]; exact h9
  · rw [mput_get, if_neg (by omega), mput_get, if_neg (by omega)]; exact h10 i hi
theorem note_g {sz o p t : Nat} {m0 mr0 m mr : Mem} {L : List Nat} (h : GD sz m0 mr0 o p L m mr) (hs : sz ≤ 60) (hl : L.length + 1 ≤ p) : ∃ m' mr', fX2_note (ctok t) m = some m' ∧ fX9_codes (o32 t) mr = some mr' ∧ GD sz m0 mr0 o p (L ++ [t]) m' mr' := by
  obtain ⟨⟨f1, f2⟩, h1, h2, h3, h4, h5, h6, h7, h8, h9, h10⟩ := h
  have ll : (L ++ [t]).length = L.length + 1 := by rw [List.length_append, List.length_singleton]
  unfold fX2_note fX9_codes
  rw [h8, h9, h5, if_neg (by rw [show (60 : Int32) = o32 60 from rfl, o_le (by omega) (by omega)]; omega), if_pos (o_inb (by omega) (by omega)), if_pos rfl, if_pos (o_inb (by omega) (by omega)), o_tn (by omega), mput_c m _ _ (show 118 ≠ 119 by omega), mput_c mr _ _ (show 137 ≠ 144 by omega), h8, h9, o_s]
  refine ⟨_, _, rfl, rfl, ⟨fun c j a b => ?_, fun c j a b => ?_⟩, h1, ?_, ?_, ?_, ?_, ?_, by omega, ?_, ?_, fun i hi => ?_⟩
  · rw [mput_get, if_neg (by omega), mput_c _ _ _ a]; exact f1 c j a b
  · rw [mput_get, if_neg (by omega), mput_c _ _ _ a]; exact f2 c j a b
  · rw [mput_get, if_neg (by omega), mput_c _ _ _ (by omega)]; exact h2
  · rw [mput_get, if_neg (by omega), mput_c _ _ _ (by omega)]; exact h3
  · rw [mput_get, if_neg (by omega), mput_c _ _ _ (by omega)]; exact h4
  · rw [mput_get, if_neg (by omega), mput_c _ _ _ (by omega)]; exact h5
  · rw [mput_get, if_neg (by omega), mput_c _ _ _ (by omega)]; exact h6
  · rw [mput_at, ll]
  · rw [mput_at, ll]
  · have A : ∀ (M : Mem) (c c' n q : Nat) (x y : Int32), c ≠ c' → (mput (mput M c n x) c' q y) c i = if i = n then x else M c i := fun M c c' n q x y h => by
      rw [mput_c _ _ _ h, mput_get]
      simp only [true_and]
    rw [A _ _ _ _ _ _ _ (show 119 ≠ 118 by omega), A _ _ _ _ _ _ _ (show 144 ≠ 137 by omega), List.getElem_append]
    by_cases e : i = L.length
    · rw [if_pos e, if_pos e, dif_neg (by omega)]
      simp [e]
    · rw [if_neg e, if_neg e, dif_pos (by omega)]
      exact h10 i (by omega)
theorem note_b {sz : Nat} {m0 mr0 m mr : Mem} (h : BD sz m0 mr0 m mr) (x y : Int32) : ∃ m' mr', fX2_note x m = some m' ∧ fX9_codes y mr = some mr' ∧ BD sz m0 mr0 m' mr' := by
  have hh := h
  obtain ⟨⟨f1, f2⟩, ⟨p, p1, p2, p3⟩, h1, h2, n, n1, n2⟩ := h
  unfold fX2_note fX9_codes
  rw [h2, if_neg one0, n2]
  by_cases c : n = 60
  · rw [if_pos (by rw [c]; decide)]
    exact ⟨_, _, rfl, rfl, hh⟩
  · rw [if_neg (by rw [show (60 : Int32) = o32 60 from rfl, o_le (by omega) (by omega)]; omega), if_pos (o_inb (by omega) (by omega)), o_tn (by omega), mput_c m _ _ (show 118 ≠ 119 by omega), n2, o_s]
    refine ⟨_, _, rfl, rfl, ⟨fun c j a b => ?_, f2⟩, ⟨p, p1, ?_, p3⟩, ?_, h2, n + 1, by omega, by rw [mput_at]⟩
    · rw [mput_get, if_neg (by omega), mput_c _ _ _ a]; exact f1 c j a b
    · rw [mput_get, if_neg (by omega), mput_c _ _ _ (by omega)]; exact p2
    · rw [mput_get, if_neg (by omega), mput_c _ _ _ (by omega)]; exact h1
/-- codes of one value -/
noncomputable def SG (S : List Nat) : Prop := (∀ d, S.foldl stp (some d) = some (d + 1)) ∧ ∀ t ∈ S, otok t
theorem SG_op {S T : List Nat} {t : Nat} (h1 : SG S) (h2 : SG T) (ht : 20000 ≤ t) (ht2 : t < 20010) : SG (S ++ T ++ [t]) := by
  refine ⟨fun d => ?_, fun x hx => ?_⟩
  · rw [List.foldl_append, List.foldl_append, h1.1 d, h2.1 (d + 1)]
    show (if t < 20000 then some (d + 1 + 1 + 1) else if t = 20010 then _ else if 2 ≤ d + 1 + 1 then some (d + 1 + 1 - 1) else none) = _
    rw [if_neg (by omega), if_neg (by omega), if_pos (by omega)]
    rfl
  · rcases List.mem_append.mp hx with z | z
    · rcases List.mem_append.mp z with z | z
      · exact h1.2 x z
      · exact h2.2 x z
    · rw [List.mem_singleton.mp z]
      exact .inr ⟨ht, by omega⟩
theorem SG_not {S : List Nat} (h1 : SG S) : SG (S ++ [20010]) := by
  refine ⟨fun d => ?_, fun x hx => ?_⟩
  · rw [List.foldl_append, h1.1 d]
    show (if 20010 < 20000 then some (d + 1 + 1) else if 20010 = 20010 then (if 1 ≤ d + 1 then some (d + 1) else none) else if 2 ≤ d + 1 then some (d + 1 - 1) else none) = _
    rw [if_neg (by omega), if_pos rfl, if_pos (by omega)]
  · rcases List.mem_append.mp hx with z | z
    · exact h1.2 x z
    · rw [List.mem_singleton.mp z]
      exact .inr (by omega)
theorem SG_one {t : Nat} (h : t < 10005) : SG [t] := by
  refine ⟨fun d => ?_, fun x hx => by rw [List.mem_singleton.mp hx]; exact .inl h⟩
  show (if t < 20000 then some (d + 1) else _) = _
  rw [if_pos (by omega)]
noncomputable def RES (sz : Nat) (m0 mr0 : Mem) (o p : Nat) (L : List Nat) (a b : Option Mem) : Prop := ∃ m mr, a = some m ∧ b = some mr ∧ ((∃ p' S, p < p' ∧ S.length ≤ p' - p ∧ SG S ∧ GD sz m0 mr0 o p' (L ++ S) m mr) ∨ BD sz m0 mr0 m mr)
noncomputable def SPEC (sz : Nat) (m0 mr0 : Mem) (o : Nat) (f g : Mem → Option Mem) : Prop := (∀ p L m mr, GD sz m0 mr0 o p L m mr → RES sz m0 mr0 o p L (f m) (g mr)) ∧ ∀ m mr, BD sz m0 mr0 m mr → ∃ m' mr', f m = some m' ∧ g mr = some mr' ∧ BD sz m0 mr0 m' mr'
end
section
/-! BOTH READERS: SIGNS BETWEEN VALUES -/
/-- the sign that stands at p, of those told -/
noncomputable def op1 (ops : List Nat) (sz : Nat) (B : Nat → Nat) (p : Nat) : Option Nat := if p < sz then ops.find? (fun i => sg1 i == B p) else none
theorem op1_some {ops : List Nat} {sz p i : Nat} {B : Nat → Nat} (h : op1 ops sz B p = some i) : p < sz ∧ B p = sg1 i ∧ i ∈ ops := by
  unfold op1 at h
  by_cases c : p < sz
  · rw [if_pos c] at h
    have h1 := List.find?_some h
    exact ⟨c, (beq_iff_eq.mp h1).symm, List.mem_of_find?_eq_some h⟩
  · rw [if_neg c] at h
    cases h
noncomputable def OUT (sz : Nat) (m0 mr0 : Mem) (o p p1 : Nat) (L : List Nat) (m mr : Mem) : Prop := (∃ p' S, p1 < p' ∧ S.length ≤ p' - p ∧ SG S ∧ GD sz m0 mr0 o p' (L ++ S) m mr) ∨ BD sz m0 mr0 m mr
theorem opstep {u sz o p p1 i : Nat} {B : Nat → Nat} {m0 mr0 m mr : Mem} {L S1 : List Nat} {f g : Mem → Option Mem} (X : CX u sz B m0 mr0) (hf : SPEC sz m0 mr0 o f g) (hi : i < 10) (h : GD sz m0 mr0 o p1 (L ++ S1) m mr) (hS : SG S1) (hl : S1.length ≤ p1 - p) (hp : p < p1) (hp1 : p1 < sz) : ∃ m' mr', ((f (mput m 118 0 (m 118 0 + 1))).bind (fX2_note (ctok (20000 + i)))) = some m' ∧ ((g (mput mr 137 7 (o32 (p1 + 1)))).bind (fX9_codes (o32 (20000 + i)))) = some mr' ∧ OUT sz m0 mr0 o p p1 L m' mr' := by
  have ha := adv_g h hp1
  obtain ⟨m1, mr1, e1, e2, e3⟩ := hf.1 _ _ _ _ ha
  rw [e1, e2, Option.bind_some, Option.bind_some]
  rcases e3 with ⟨p2, S2, q1, q2, q3, q4⟩ | e3
  · have hp2 := q4.2.1
    have hL := h.2.2.2.2.2.2.2.1
    have l1 : (L ++ S1 ++ S2).length + 1 ≤ p2 := by
      rw [List.length_append]
      omega
    obtain ⟨m2, mr2, n1, n2, n3⟩ := note_g (t := 20000 + i) q4 X.2.1 l1
    refine ⟨m2, mr2, n1, n2, .inl ⟨p2, S1 ++ S2 ++ [20000 + i], by omega, ?_, SG_op hS q3 (by omega) (by omega), ?_⟩⟩
    · rw [List.length_append, List.length_append, List.length_singleton]
      omega
    · rw [← List.append_assoc, ← List.append_assoc]
      exact n3
  · obtain ⟨m2, mr2, n1, n2, n3⟩ := note_b e3 (ctok (20000 + i)) (o32 (20000 + i))
    exact ⟨m2, mr2, n1, n2, .inr n3⟩
theorem levA {u sz o : Nat} {B : Nat → Nat} {m0 mr0 : Mem} {f g : Mem → Option Mem} {bC : Int32 × Mem → Option ((Int32 × Mem) ⊕ Mem)} {bM : Int32 × Mem → Option ((Int32 × Mem) ⊕ Mem)} {pick : Mem → Option (Int32 × Mem)} {ops : List Nat} (X : CX u sz B m0 mr0) (hf : SPEC sz m0 mr0 o f g) (ho : ∀ i ∈ ops, i < 10)
    (C1 : ∀ p L m mr k i, GD sz m0 mr0 o p L m mr → k < 60 → op1 ops sz B p = some i → bC (o32 k, m) = ((f (mput m 118 0 (m 118 0 + 1))).bind (fX2_note (ctok (20000 + i)))).map (fun q => .inl (o32 (k + 1), q)))
    (C2 : ∀ p L m mr k, GD sz m0 mr0 o p L m mr → k ≤ 60 → op1 ops sz B p = none → bC (o32 k, m) = some (.inr m))
    (C3 : ∀ m mr k, BD sz m0 mr0 m mr → k ≤ 60 → bC (o32 k, m) = some (.inr m))
    (M1 : ∀ i mr, i < 10 → bM (o32 (20000 + i), mr) = (((g mr).bind (fX9_codes (o32 (20000 + i)))).bind pick).map .inl)
    (M2 : ∀ mr, bM (0, mr) = some (.inr mr))
    (P1 : ∀ p L m mr i, GD sz m0 mr0 o p L m mr → op1 ops sz B p = some i → pick mr = some (o32 (20000 + i), mput mr 137 7 (o32 (p + 1))))
    (P2 : ∀ p L m mr, GD sz m0 mr0 o p L m mr → op1 ops sz B p = none → pick mr = some (0, mr))
    (P3 : ∀ m mr, BD sz m0 mr0 m mr → pick mr = some (0, mr)) : SPEC sz m0 mr0 o (fun m => (f m).bind fun q => lp bC fu (0, q)) (fun mr => (g mr).bind fun q => (pick q).bind fun s => lp bM fu s) := by
  have bad : ∀ m mr k z z', BD sz m0 mr0 m mr → k ≤ 60 → 0 < z → 0 < z' → ∃ m' mr', lp bC z (o32 k, m) = some m' ∧ ((pick mr).bind fun s => lp bM z' s) = some mr' ∧ BD sz m0 mr0 m' mr' := fun m mr k z z' h hk hz hz' => by
    obtain ⟨z, rfl⟩ : ∃ y, z = y + 1 := ⟨z - 1, by omega⟩
    obtain ⟨z', rfl⟩ : ∃ y, z' = y + 1 := ⟨z' - 1, by omega⟩
    rw [P3 m mr h, Option.bind_some]
    exact ⟨m, mr, lp_e (C3 m mr k h hk), lp_e (M2 mr), h⟩
  have go : ∀ d p p1 L S1 m mr k z z', sz - p1 ≤ d → k ≤ p1 → GD sz m0 mr0 o p1 (L ++ S1) m mr → SG S1 → S1.length ≤ p1 - p → p < p1 → d + 2 < z → d + 2 < z' → ∃ m' mr', lp bC z (o32 k, m) = some m' ∧ ((pick mr).bind fun s => lp bM z' s) = some mr' ∧ ((∃ p' S, p < p' ∧ S.length ≤ p' - p ∧ SG S ∧ GD sz m0 mr0 o p' (L ++ S) m' mr') ∨ BD sz m0 mr0 m' mr') := by
    intro d
    induction d with
    | zero =>
      intro p p1 L S1 m mr k z z' hd hk h hS hl hp hz hz'
      have h1 := h.2.1
      have hs := X.2.1
      have hn : op1 ops sz B p1 = none := by unfold op1; rw [if_neg (by omega)]
      obtain ⟨z, rfl⟩ : ∃ y, z = y + 1 := ⟨z - 1, by omega⟩
      obtain ⟨z', rfl⟩ : ∃ y, z' = y + 1 := ⟨z' - 1, by omega⟩
      rw [P2 _ _ _ _ h hn, Option.bind_some]
      exact ⟨m, mr, lp_e (C2 _ _ _ _ k h (by omega) hn), lp_e (M2 mr), .inl ⟨p1, S1, hp, hl, hS, h⟩⟩
    | succ d ih =>
      intro p p1 L S1 m mr k z z' hd hk h hS hl hp hz hz'
      have h1 := h.2.1
      have hs := X.2.1
      obtain ⟨z, rfl⟩ : ∃ y, z = y + 1 := ⟨z - 1, by omega⟩
      obtain ⟨z', rfl⟩ : ∃ y, z' = y + 1 := ⟨z' - 1, by omega⟩
      cases hn : op1 ops sz B p1 with
      | none =>
        rw [P2 _ _ _ _ h hn, Option.bind_some]
        exact ⟨m, mr, lp_e (C2 _ _ _ _ k h (by omega) hn), lp_e (M2 mr), .inl ⟨p1, S1, hp, hl, hS, h⟩⟩
      | some i =>
        obtain ⟨o1, o2, o3⟩ := op1_some hn
        have i10 := ho i o3
        obtain ⟨m', mr', s1, s2, s3⟩ := opstep X hf i10 h hS hl hp o1
        have c1 := C1 _ _ _ _ k i h (by omega) hn
        rw [s1] at c1
        rw [P1 _ _ _ _ _ h hn, Option.bind_some, lp_i c1]
        have m1 := M1 i (mput mr 137 7 (o32 (p1 + 1))) i10
        rw [s2, Option.bind_some] at m1
        have lift : ∀ r, ((pick mr').bind fun s => lp bM z' s) = some r → lp bM (z' + 1) (o32 (20000 + i), mput mr 137 7 (o32 (p1 + 1))) = some r := fun r hr => by
          cases hp : pick mr' with
          | none => rw [hp] at hr; cases hr
          | some s =>
            rw [hp] at hr m1
            exact (lp_i m1).trans hr
        rcases s3 with ⟨p', S, q1, q2, q3, q4⟩ | s3
        · obtain ⟨m2, mr2, r1, r2, r3⟩ := ih p p' L S m' mr' (k + 1) z z' (by omega) (by omega) q4 q3 q2 (by omega) (by omega) (by omega)
          exact ⟨m2, mr2, r1, lift _ r2, r3⟩
        · obtain ⟨m2, mr2, r1, r2, r3⟩ := bad m' mr' (k + 1) z z' s3 (by omega) (by omega) (by omega)
          exact ⟨m2, mr2, r1, lift _ r2, .inr r3⟩
  refine ⟨fun p L m mr h => ?_, fun m mr h => ?_⟩
  · obtain ⟨m1, mr1, e1, e2, e3⟩ := hf.1 p L m mr h
    dsimp only
    rw [e1, e2, Option.bind_some, Option.bind_some]
    rcases e3 with ⟨p1, S1, q1, q2, q3, q4⟩ | e3
    · have hs := X.2.1
      have h1 := q4.2.1
      exact go sz p p1 L S1 m1 mr1 0 fu fu (by omega) (by omega) q4 q3 q2 q1 (lt_fu (by omega)) (lt_fu (by omega))
    · obtain ⟨m2, mr2, r1, r2, r3⟩ := bad m1 mr1 0 fu fu e3 (by omega) (lt_fu (by omega)) (lt_fu (by omega))
      exact ⟨m2, mr2, r1, r2, .inr r3⟩
  · obtain ⟨m1, mr1, e1, e2, e3⟩ := hf.2 m mr h
    dsimp only
    rw [e1, e2, Option.bind_some, Option.bind_some]
    exact bad m1 mr1 0 fu fu e3 (by omega) (lt_fu (by omega)) (lt_fu (by omega))
theorem levB {u sz o i : Nat} {B : Nat → Nat} {m0 mr0 : Mem} {f g : Mem → Option Mem} {bC : Int32 × Mem → Option ((Int32 × Mem) ⊕ Mem)} {bM : Mem → Option (Mem ⊕ Mem)} (X : CX u sz B m0 mr0) (hf : SPEC sz m0 mr0 o f g) (i10 : i < 10)
    (C1 : ∀ p L m mr k, GD sz m0 mr0 o p L m mr → k < 60 → op1 [i] sz B p = some i → bC (o32 k, m) = ((f (mput m 118 0 (m 118 0 + 1))).bind (fX2_note (ctok (20000 + i)))).map (fun q => .inl (o32 (k + 1), q)))
    (C2 : ∀ p L m mr k, GD sz m0 mr0 o p L m mr → k ≤ 60 → op1 [i] sz B p = none → bC (o32 k, m) = some (.inr m))
    (C3 : ∀ m mr k, BD sz m0 mr0 m mr → k ≤ 60 → bC (o32 k, m) = some (.inr m))
    (M1 : ∀ p L m mr, GD sz m0 mr0 o p L m mr → op1 [i] sz B p = some i → bM mr = ((g (mput mr 137 7 (o32 (p + 1)))).bind (fX9_codes (o32 (20000 + i)))).map .inl)
    (M2 : ∀ p L m mr, GD sz m0 mr0 o p L m mr → op1 [i] sz B p = none → bM mr = some (.inr mr))
    (M3 : ∀ m mr, BD sz m0 mr0 m mr → bM mr = some (.inr mr)) : SPEC sz m0 mr0 o (fun m => (f m).bind fun q => lp bC fu (0, q)) (fun mr => (g mr).bind fun q => lp bM fu q) := by
  have bad : ∀ m mr k z z', BD sz m0 mr0 m mr → k ≤ 60 → 0 < z → 0 < z' → ∃ m' mr', lp bC z (o32 k, m) = some m' ∧ lp bM z' mr = some mr' ∧ BD sz m0 mr0 m' mr' := fun m mr k z z' h hk hz hz' => by
    obtain ⟨z, rfl⟩ : ∃ y, z = y + 1 := ⟨z - 1, by omega⟩
    obtain ⟨z', rfl⟩ : ∃ y, z' = y + 1 := ⟨z' - 1, by omega⟩
    exact ⟨m, mr, lp_e (C3 m mr k h hk), lp_e (M3 m mr h), h⟩
  have go : ∀ d p p1 L S1 m mr k z z', sz - p1 ≤ d → k ≤ p1 → GD sz m0 mr0 o p1 (L ++ S1) m mr → SG S1 → S1.length ≤ p1 - p → p < p1 → d + 2 < z → d + 2 < z' → ∃ m' mr', lp bC z (o32 k, m) = some m' ∧ lp bM z' mr = some mr' ∧ ((∃ p' S, p < p' ∧ S.length ≤ p' - p ∧ SG S ∧ GD sz m0 mr0 o p' (L ++ S) m' mr') ∨ BD sz m0 mr0 m' mr') := by
    intro d
    induction d with
    | zero =>
      intro p p1 L S1 m mr k z z' hd hk h hS hl hp hz hz'
      have h1 := h.2.1
      have hs := X.2.1
      have hn : op1 [i] sz B p1 = none := by unfold op1; rw [if_neg (by omega)]
      obtain ⟨z, rfl⟩ : ∃ y, z = y + 1 := ⟨z - 1, by omega⟩
      obtain ⟨z', rfl⟩ : ∃ y, z' = y + 1 := ⟨z' - 1, by omega⟩
      exact ⟨m, mr, lp_e (C2 _ _ _ _ k h (by omega) hn), lp_e (M2 _ _ _ _ h hn), .inl ⟨p1, S1, hp, hl, hS, h⟩⟩
    | succ d ih =>
      intro p p1 L S1 m mr k z z' hd hk h hS hl hp hz hz'
      have h1 := h.2.1
      have hs := X.2.1
      obtain ⟨z, rfl⟩ : ∃ y, z = y + 1 := ⟨z - 1, by omega⟩
      obtain ⟨z', rfl⟩ : ∃ y, z' = y + 1 := ⟨z' - 1, by omega⟩
      cases hn : op1 [i] sz B p1 with
      | none => exact ⟨m, mr, lp_e (C2 _ _ _ _ k h (by omega) hn), lp_e (M2 _ _ _ _ h hn), .inl ⟨p1, S1, hp, hl, hS, h⟩⟩
      | some j =>
        obtain ⟨o1, o2, o3⟩ := op1_some hn
        have ij : j = i := List.mem_singleton.mp o3
        subst ij
        obtain ⟨m', mr', s1, s2, s3⟩ := opstep X hf i10 h hS hl hp o1
        have c1 := C1 _ _ _ _ k h (by omega) hn
        rw [s1] at c1
        have m1 := M1 _ _ _ _ h hn
        rw [s2] at m1
        rw [lp_i c1, lp_i m1]
        rcases s3 with ⟨p', S, q1, q2, q3, q4⟩ | s3
        · exact ih p p' L S m' mr' (k + 1) z z' (by omega) (by omega) q4 q3 q2 (by omega) (by omega) (by omega)
        · obtain ⟨m2, mr2, r1, r2, r3⟩ := bad m' mr' (k + 1) z z' s3 (by omega) (by omega) (by omega)
          exact ⟨m2, mr2, r1, r2, .inr r3⟩
  refine ⟨fun p L m mr h => ?_, fun m mr h => ?_⟩
  · obtain ⟨m1, mr1, e1, e2, e3⟩ := hf.1 p L m mr h
    dsimp only
    rw [e1, e2, Option.bind_some, Option.bind_some]
    rcases e3 with ⟨p1, S1, q1, q2, q3, q4⟩ | e3
    · have hs := X.2.1
      have h1 := q4.2.1
      exact go sz p p1 L S1 m1 mr1 0 fu fu (by omega) (by omega) q4 q3 q2 q1 (lt_fu (by omega)) (lt_fu (by omega))
    · obtain ⟨m2, mr2, r1, r2, r3⟩ := bad m1 mr1 0 fu fu e3 (by omega) (lt_fu (by omega)) (lt_fu (by omega))
      exact ⟨m2, mr2, r1, r2, .inr r3⟩
  · obtain ⟨m1, mr1, e1, e2, e3⟩ := hf.2 m mr h
    dsimp only
    rw [e1, e2, Option.bind_some, Option.bind_some]
    exact bad m1 mr1 0 fu fu e3 (by omega) (lt_fu (by omega)) (lt_fu (by omega))
end
section
/-! BOTH READERS: FROM SINGLE TO EITHER -/
theorem bm {E : Type} (a : Option Mem) (h : Mem → Option Mem) (k : Mem → E) : (a.bind fun q => (h q).bind fun r => some (k r)) = (a.bind h).map k := by
  cases a with
  | none => rfl
  | some q =>
    show ((h q).bind fun r => some (k r)) = (h q).map k
    cases h q <;> rfl
theorem sgn_tab : ∀ i, i < 11 → fX5_ofSign (jI2c (o32 (sg1 i))) = ctok (20000 + i) ∧ fX5_ofSign (o32 (sg1 i)) = ctok (20000 + i) := by decide +kernel
theorem bt_some {ops : List Nat} {sz p i : Nat} {B : Nat → Nat} (h : op1 ops sz B p = some i) : bt sz B p = o32 (sg1 i) := by
  obtain ⟨h1, h2, _⟩ := op1_some h
  unfold bt
  rw [if_pos h1, h2]
theorem sg_lt : ∀ i, i < 11 → sg1 i < 1000 := by decide
theorem bt_none {u sz p : Nat} {B : Nat → Nat} {m0 mr0 : Mem} {ops : List Nat} (X : CX u sz B m0 mr0) (h : op1 ops sz B p = none) (j : Nat) (hj : j ∈ ops) (j11 : j < 11) : ¬ bt sz B p = o32 (sg1 j) := fun z => by
  obtain ⟨z1, z2⟩ := (bt_255 X (sg_lt j j11)).mp z
  unfold op1 at h
  rw [if_pos z1] at h
  have := List.find?_eq_none.mp h j hj
  rw [z2] at this
  exact this (by simp)
theorem k60 {k : Nat} (h : k < 60) : ¬ (60 : Int32) ≤ o32 k := by
  rw [show (60 : Int32) = o32 60 from rfl, o_le (by omega) (by omega)]
  omega
noncomputable def pickP (mr : Mem) : Option (Int32 × Mem) := (fX9_takes 42 mr).bind fun q2 => (if q2.1 = 0 then (fX9_takes 47 q2.2).bind fun q3 => (if q3.1 = 0 then (fX9_takes 37 q3.2).bind fun q4 => (if q4.1 = 0 then some (0, q4.2) else some (20009, q4.2)) else some (20008, q3.2)) else some (20007, q2.2))
noncomputable def pickS (mr : Mem) : Option (Int32 × Mem) := (fX9_takes 43 mr).bind fun q2 => (if q2.1 = 0 then (fX9_takes 45 q2.2).bind fun q3 => (if q3.1 = 0 then some (0, q3.2) else some (20006, q3.2)) else some (20005, q2.2))
noncomputable def pickC (mr : Mem) : Option (Int32 × Mem) := (fX9_takes 60 mr).bind fun q2 => (if q2.1 = 0 then (fX9_takes 61 q2.2).bind fun q3 => (if q3.1 = 0 then (fX9_takes 62 q3.2).bind fun q4 => (if q4.1 = 0 then some (0, q4.2) else some (20004, q4.2)) else some (20003, q3.2)) else some (20002, q2.2))
theorem pickP_b {E : Type} (mr : Mem) (k : Int32 × Mem → Option E) : ((fX9_takes 42 mr).bind fun q2 => (if q2.1 = 0 then (fX9_takes 47 q2.2).bind fun q3 => (if q3.1 = 0 then (fX9_takes 37 q3.2).bind fun q4 => (if q4.1 = 0 then k (0, q4.2) else k (20009, q4.2)) else k (20008, q3.2)) else k (20007, q2.2))) = (pickP mr).bind k := by
  unfold pickP
  cases fX9_takes 42 mr with
  | none => rfl
  | some q2 =>
    rw [Option.bind_some, Option.bind_some]
    by_cases c : q2.1 = 0
    · rw [if_pos c, if_pos c]
      cases fX9_takes 47 q2.2 with
      | none => rfl
      | some q3 =>
        rw [Option.bind_some, Option.bind_some]
        by_cases c : q3.1 = 0
        · rw [if_pos c, if_pos c]
          cases fX9_takes 37 q3.2 with
          | none => rfl
          | some q4 =>
            rw [Option.bind_some, Option.bind_some]
            by_cases c : q4.1 = 0
            · rw [if_pos c, if_pos c]; rfl
            · rw [if_neg c, if_neg c]; rfl
        · rw [if_neg c, if_neg c]; rfl
    · rw [if_neg c, if_neg c]; rfl
theorem pickC_b {E : Type} (mr : Mem) (k : Int32 × Mem → Option E) : ((fX9_takes 60 mr).bind fun q2 => (if q2.1 = 0 then (fX9_takes 61 q2.2).bind fun q3 => (if q3.1 = 0 then (fX9_takes 62 q3.2).bind fun q4 => (if q4.1 = 0 then k (0, q4.2) else k (20004, q4.2)) else k (20003, q3.2)) else k (20002, q2.2))) = (pickC mr).bind k := by
  unfold pickC
  cases fX9_takes 60 mr with
  | none => rfl
  | some q2 =>
    rw [Option.bind_some, Option.bind_some]
    by_cases c : q2.1 = 0
    · rw [if_pos c, if_pos c]
      cases fX9_takes 61 q2.2 with
      | none => rfl
      | some q3 =>
        rw [Option.bind_some, Option.bind_some]
        by_cases c : q3.1 = 0
        · rw [if_pos c, if_pos c]
          cases fX9_takes 62 q3.2 with
          | none => rfl
          | some q4 =>
            rw [Option.bind_some, Option.bind_some]
            by_cases c : q4.1 = 0
            · rw [if_pos c, if_pos c]; rfl
            · rw [if_neg c, if_neg c]; rfl
        · rw [if_neg c, if_neg c]; rfl
    · rw [if_neg c, if_neg c]; rfl
theorem pickS_b {E : Type} (mr : Mem) (k : Int32 × Mem → Option E) : ((fX9_takes 43 mr).bind fun q2 => (if q2.1 = 0 then (fX9_takes 45 q2.2).bind fun q3 => (if q3.1 = 0 then k (0, q3.2) else k (20006, q3.2)) else k (20005, q2.2))) = (pickS mr).bind k := by
  unfold pickS
  cases fX9_takes 43 mr with
  | none => rfl
  | some q2 =>
    rw [Option.bind_some, Option.bind_some]
    by_cases c : q2.1 = 0
    · rw [if_pos c, if_pos c]
      cases fX9_takes 45 q2.2 with
      | none => rfl
      | some q3 =>
        rw [Option.bind_some, Option.bind_some]
        by_cases c : q3.1 = 0
        · rw [if_pos c, if_pos c]; rfl
        · rw [if_neg c, if_neg c]; rfl
    · rw [if_neg c, if_neg c]; rfl
theorem pickP_g {u sz o p : Nat} {B : Nat → Nat} {m0 mr0 m mr : Mem} {L : List Nat} (X : CX u sz B m0 mr0) (h : GD sz m0 mr0 o p L m mr) : (∀ i, op1 [7, 8, 9] sz B p = some i → pickP mr = some (o32 (20000 + i), mput mr 137 7 (o32 (p + 1)))) ∧ (op1 [7, 8, 9] sz B p = none → pickP mr = some (0, mr)) := by
  have t1 := tk_g X h 42
  have t2 := tk_g X h 47
  have t3 := tk_g X h 37
  unfold pickP
  refine ⟨fun i hi => ?_, fun hn => ?_⟩
  · have hb := bt_some hi
    have hm := (op1_some hi).2.2
    rw [hb] at t1 t2 t3
    simp only [List.mem_cons, List.mem_nil_iff, or_false] at hm
    rcases hm with rfl | rfl | rfl
    · rw [t1, if_pos (by decide)]; rfl
    · rw [t1, if_neg (by decide), Option.bind_some, if_pos rfl, t2, if_pos (by decide)]; rfl
    · rw [t1, if_neg (by decide), Option.bind_some, if_pos rfl, t2, if_neg (by decide), Option.bind_some, if_pos rfl, t3, if_pos (by decide)]; rfl
  · rw [t1, if_neg (show ¬ bt sz B p = 42 from bt_none X hn 7 (by simp) (by omega)), Option.bind_some, if_pos rfl, t2, if_neg (show ¬ bt sz B p = 47 from bt_none X hn 8 (by simp) (by omega)), Option.bind_some, if_pos rfl, t3, if_neg (show ¬ bt sz B p = 37 from bt_none X hn 9 (by simp) (by omega))]; rfl
theorem pickC_g {u sz o p : Nat} {B : Nat → Nat} {m0 mr0 m mr : Mem} {L : List Nat} (X : CX u sz B m0 mr0) (h : GD sz m0 mr0 o p L m mr) : (∀ i, op1 [2, 3, 4] sz B p = some i → pickC mr = some (o32 (20000 + i), mput mr 137 7 (o32 (p + 1)))) ∧ (op1 [2, 3, 4] sz B p = none → pickC mr = some (0, mr)) := by
  have t1 := tk_g X h 60
  have t2 := tk_g X h 61
  have t3 := tk_g X h 62
  unfold pickC
  refine ⟨fun i hi => ?_, fun hn => ?_⟩
  · have hb := bt_some hi
    have hm := (op1_some hi).2.2
    rw [hb] at t1 t2 t3
    simp only [List.mem_cons, List.mem_nil_iff, or_false] at hm
    rcases hm with rfl | rfl | rfl
    · rw [t1, if_pos (by decide)]; rfl
    · rw [t1, if_neg (by decide), Option.bind_some, if_pos rfl, t2, if_pos (by decide)]; rfl
    · rw [t1, if_neg (by decide), Option.bind_some, if_pos rfl, t2, if_neg (by decide), Option.bind_some, if_pos rfl, t3, if_pos (by decide)]; rfl
  · rw [t1, if_neg (show ¬ bt sz B p = 60 from bt_none X hn 2 (by simp) (by omega)), Option.bind_some, if_pos rfl, t2, if_neg (show ¬ bt sz B p = 61 from bt_none X hn 3 (by simp) (by omega)), Option.bind_some, if_pos rfl, t3, if_neg (show ¬ bt sz B p = 62 from bt_none X hn 4 (by simp) (by omega))]; rfl
theorem pickS_g {u sz o p : Nat} {B : Nat → Nat} {m0 mr0 m mr : Mem} {L : List Nat} (X : CX u sz B m0 mr0) (h : GD sz m0 mr0 o p L m mr) : (∀ i, op1 [5, 6] sz B p = some i → pickS mr = some (o32 (20000 + i), mput mr 137 7 (o32 (p + 1)))) ∧ (op1 [5, 6] sz B p = none → pickS mr = some (0, mr)) := by
  have t1 := tk_g X h 43
  have t2 := tk_g X h 45
  unfold pickS
  refine ⟨fun i hi => ?_, fun hn => ?_⟩
  · have hb := bt_some hi
    have hm := (op1_some hi).2.2
    rw [hb] at t1 t2
    simp only [List.mem_cons, List.mem_nil_iff, or_false] at hm
    rcases hm with rfl | rfl
    · rw [t1, if_pos (by decide)]; rfl
    · rw [t1, if_neg (by decide), Option.bind_some, if_pos rfl, t2, if_pos (by decide)]; rfl
  · rw [t1, if_neg (show ¬ bt sz B p = 43 from bt_none X hn 5 (by simp) (by omega)), Option.bind_some, if_pos rfl, t2, if_neg (show ¬ bt sz B p = 45 from bt_none X hn 6 (by simp) (by omega))]; rfl
theorem product_S {u sz o : Nat} {B : Nat → Nat} {m0 mr0 : Mem} {e : Int32 → Mem → Option Mem} {g : Mem → Option Mem} (X : CX u sz B m0 mr0) (hf : SPEC sz m0 mr0 o (e (o32 o)) g) : SPEC sz m0 mr0 o (fX2_product e (o32 o)) (fX9_product g) := by
  have eM : fX9_product g = fun mr => (g mr).bind fun q => (pickP q).bind fun s => lp (lX9_product_51 g) fu s := by
    funext mr
    unfold fX9_product
    congr 1
    funext q
    exact pickP_b q (fun s => lp (lX9_product_51 g) fu s)
  rw [eM]
  refine levA (bC := lX2_product_7 e (o32 o)) (bM := lX9_product_51 g) (pick := pickP) (ops := [7, 8, 9]) X hf (fun i hi => by simp at hi; omega) (fun p L m mr k i h hk hi => ?_) (fun p L m mr k h hk hn => ?_) (fun m mr k h hk => ?_) (fun i mr hi => ?_) (fun mr => rfl) (fun p L m mr i h hi => (pickP_g X h).1 i hi) (fun p L m mr h hn => (pickP_g X h).2 hn) (fun m mr h => ?_)
  · have hb := bt_some hi
    have hm := (op1_some hi).2.2
    have t := nI_g (n := 0) X h
    rw [hb] at t
    have fin : bX2_product_40 e (o32 o) (o32 k) m = ((e (o32 o) (mput m 118 0 (m 118 0 + 1))).bind (fX2_note (ctok (20000 + i)))).map (fun q => .inl (o32 (k + 1), q)) := by
      unfold bX2_product_40
      rw [(nx_g X h).1, Option.bind_some, hb, (sgn_tab i (by simp at hm; omega)).1, o_s]
      exact bm _ _ _
    unfold lX2_product_7
    dsimp only
    simp only [List.mem_cons, List.mem_nil_iff, or_false] at hm
    rw [if_neg (k60 hk), t, t, t]
    rcases hm with rfl | rfl | rfl
    · rw [if_pos (show o32 (sg1 7) = 42 by decide), Option.bind_some, if_neg one0]; exact fin
    · rw [if_neg (show ¬ o32 (sg1 8) = 42 by decide), Option.bind_some, if_pos rfl, if_pos (show o32 (sg1 8) = 47 by decide), Option.bind_some, if_neg one0]; exact fin
    · rw [if_neg (show ¬ o32 (sg1 9) = 42 by decide), Option.bind_some, if_pos rfl, if_neg (show ¬ o32 (sg1 9) = 47 by decide), Option.bind_some, if_pos rfl, if_pos (show o32 (sg1 9) = 37 by decide), Option.bind_some, if_neg one0]; exact fin
  · unfold lX2_product_7
    dsimp only
    by_cases c : k = 60
    · rw [if_pos (by rw [c]; decide)]
    · have t := nI_g (n := 0) X h
      rw [if_neg (k60 (by omega)), t, t, t, if_neg (show ¬ bt sz B p = 42 from bt_none X hn 7 (by simp) (by omega)), Option.bind_some, if_pos rfl, if_neg (show ¬ bt sz B p = 47 from bt_none X hn 8 (by simp) (by omega)), Option.bind_some, if_pos rfl, if_neg (show ¬ bt sz B p = 37 from bt_none X hn 9 (by simp) (by omega)), Option.bind_some, if_pos rfl]
  · unfold lX2_product_7
    dsimp only
    by_cases c : k = 60
    · rw [if_pos (by rw [c]; decide)]
    · rw [if_neg (k60 (by omega)), nI_b h (by decide), nI_b h (by decide), nI_b h (by decide)]
      rfl
  · unfold lX9_product_51
    dsimp only
    rw [if_neg (by rw [show (0 : Int32) = o32 0 from rfl, o_le (by omega) (by omega)]; omega)]
    cases g mr with
    | none => rfl
    | some q5 =>
      rw [Option.bind_some, Option.bind_some]
      cases fX9_codes (o32 (20000 + i)) q5 with
      | none => rfl
      | some q6 =>
        rw [Option.bind_some, Option.bind_some]
        exact (pickP_b q6 (fun s => (some (.inl s) : Option ((Int32 × Mem) ⊕ Mem)))).trans (by cases pickP q6 <;> rfl)
  · unfold pickP
    rw [tk_b h (by decide), Option.bind_some, if_pos rfl, tk_b h (by decide), Option.bind_some, if_pos rfl, tk_b h (by decide)]
    rfl
theorem sum_S {u sz o : Nat} {B : Nat → Nat} {m0 mr0 : Mem} {e : Int32 → Mem → Option Mem} {g : Mem → Option Mem} (X : CX u sz B m0 mr0) (hf : SPEC sz m0 mr0 o (e (o32 o)) g) : SPEC sz m0 mr0 o (fX2_sum e (o32 o)) (fX9_sum g) := by
  have hf := product_S X hf
  have eM : fX9_sum g = fun mr => (fX9_product g mr).bind fun q => (pickS q).bind fun s => lp (lX9_sum_36 g) fu s := by
    funext mr
    unfold fX9_sum
    congr 1
    funext q
    exact pickS_b q (fun s => lp (lX9_sum_36 g) fu s)
  rw [eM]
  refine levA (bC := lX2_sum_7 e (o32 o)) (bM := lX9_sum_36 g) (pick := pickS) (ops := [5, 6]) X hf (fun i hi => by simp at hi; omega) (fun p L m mr k i h hk hi => ?_) (fun p L m mr k h hk hn => ?_) (fun m mr k h hk => ?_) (fun i mr hi => ?_) (fun mr => rfl) (fun p L m mr i h hi => (pickS_g X h).1 i hi) (fun p L m mr h hn => (pickS_g X h).2 hn) (fun m mr h => ?_)
  · have hb := bt_some hi
    have hm := (op1_some hi).2.2
    have t := nI_g (n := 0) X h
    rw [hb] at t
    have fin : bX2_sum_31 e (o32 o) (o32 k) m = ((fX2_product e (o32 o) (mput m 118 0 (m 118 0 + 1))).bind (fX2_note (ctok (20000 + i)))).map (fun q => .inl (o32 (k + 1), q)) := by
      unfold bX2_sum_31
      rw [(nx_g X h).1, Option.bind_some, hb, (sgn_tab i (by simp at hm; omega)).1, o_s]
      exact bm _ _ _
    unfold lX2_sum_7
    dsimp only
    simp only [List.mem_cons, List.mem_nil_iff, or_false] at hm
    rw [if_neg (k60 hk), t, t]
    rcases hm with rfl | rfl
    · rw [if_pos (show o32 (sg1 5) = 43 by decide), Option.bind_some, if_neg one0]; exact fin
    · rw [if_neg (show ¬ o32 (sg1 6) = 43 by decide), Option.bind_some, if_pos rfl, if_pos (show o32 (sg1 6) = 45 by decide), Option.bind_some, if_neg one0]; exact fin
  · unfold lX2_sum_7
    dsimp only
    by_cases c : k = 60
    · rw [if_pos (by rw [c]; decide)]
    · have t := nI_g (n := 0) X h
      rw [if_neg (k60 (by omega)), t, t, if_neg (show ¬ bt sz B p = 43 from bt_none X hn 5 (by simp) (by omega)), Option.bind_some, if_pos rfl, if_neg (show ¬ bt sz B p = 45 from bt_none X hn 6 (by simp) (by omega)), Option.bind_some, if_pos rfl]
  · unfold lX2_sum_7
    dsimp only
    by_cases c : k = 60
    · rw [if_pos (by rw [c]; decide)]
    · rw [if_neg (k60 (by omega)), nI_b h (by decide), nI_b h (by decide)]
      rfl
  · unfold lX9_sum_36
    dsimp only
    rw [if_neg (by rw [show (0 : Int32) = o32 0 from rfl, o_le (by omega) (by omega)]; omega)]
    cases fX9_product g mr with
    | none => rfl
    | some q5 =>
      rw [Option.bind_some, Option.bind_some]
      cases fX9_codes (o32 (20000 + i)) q5 with
      | none => rfl
      | some q6 =>
        rw [Option.bind_some, Option.bind_some]
        exact (pickS_b q6 (fun s => (some (.inl s) : Option ((Int32 × Mem) ⊕ Mem)))).trans (by cases pickS q6 <;> rfl)
  · unfold pickS
    rw [tk_b h (by decide), Option.bind_some, if_pos rfl, tk_b h (by decide)]
    rfl
end
section
/-! BOTH READERS: COMPARED, BOTH, EITHER -/
theorem bs (a : Option Mem) (h : Mem → Option Mem) : (a.bind fun q => (h q).bind fun r => some r) = a.bind h := by
  cases a with
  | none => rfl
  | some q =>
    show ((h q).bind fun r => some r) = h q
    cases h q <;> rfl
theorem compared_S {u sz o : Nat} {B : Nat → Nat} {m0 mr0 : Mem} {e : Int32 → Mem → Option Mem} {g : Mem → Option Mem} (X : CX u sz B m0 mr0) (hf : SPEC sz m0 mr0 o (e (o32 o)) g) : SPEC sz m0 mr0 o (fX2_compared e (o32 o)) (fX9_compared g) := by
  have hf := sum_S X hf
  have eM : fX9_compared g = fun mr => (fX9_sum g mr).bind fun q => (pickC q).bind fun s => bX9_compared_50 g s.1 s.2 := by
    funext mr
    unfold fX9_compared
    congr 1
    funext q
    exact pickC_b q (fun s => bX9_compared_50 g s.1 s.2)
  rw [eM]
  have bad : ∀ m mr, BD sz m0 mr0 m mr → ((fX2_nextIs 60 m).bind fun q2 => (if q2 = 0 then (fX2_nextIs 61 m).bind fun q3 => (if q3 = 0 then (fX2_nextIs 62 m).bind fun q4 => (if q4 = 0 then some m else bX2_compared_32 e (o32 o) m) else bX2_compared_32 e (o32 o) m) else bX2_compared_32 e (o32 o) m)) = some m ∧ ((pickC mr).bind fun s => bX9_compared_50 g s.1 s.2) = some mr := fun m mr h => by
    refine ⟨by rw [nI_b h (by decide), nI_b h (by decide), nI_b h (by decide)]; rfl, ?_⟩
    unfold pickC
    rw [tk_b h (by decide), Option.bind_some, if_pos rfl, tk_b h (by decide), Option.bind_some, if_pos rfl, tk_b h (by decide)]
    rfl
  refine ⟨fun p L m mr h => ?_, fun m mr h => ?_⟩
  · obtain ⟨m1, mr1, e1, e2, e3⟩ := hf.1 p L m mr h
    unfold fX2_compared
    dsimp only
    rw [e1, e2, Option.bind_some, Option.bind_some]
    rcases e3 with ⟨p1, S1, q1, q2, q3, q4⟩ | e3
    · have t := nI_g (n := 0) X q4
      cases hn : op1 [2, 3, 4] sz B p1 with
      | none =>
        rw [(pickC_g X q4).2 hn, t, t, t, if_neg (show ¬ bt sz B p1 = 60 from bt_none X hn 2 (by simp) (by omega)), Option.bind_some, if_pos rfl, if_neg (show ¬ bt sz B p1 = 61 from bt_none X hn 3 (by simp) (by omega)), Option.bind_some, if_pos rfl, if_neg (show ¬ bt sz B p1 = 62 from bt_none X hn 4 (by simp) (by omega)), Option.bind_some, if_pos rfl]
        exact ⟨m1, mr1, rfl, rfl, .inl ⟨p1, S1, q1, q2, q3, q4⟩⟩
      | some i =>
        obtain ⟨o1, o2, o3⟩ := op1_some hn
        have hb := bt_some hn
        have i5 : i < 10 := by simp at o3; omega
        obtain ⟨m', mr', s1, s2, s3⟩ := opstep X hf i5 q4 q3 q2 q1 o1
        have fin : bX2_compared_32 e (o32 o) m1 = some m' := by
          unfold bX2_compared_32
          rw [(nx_g X q4).1, Option.bind_some, hb, (sgn_tab i (by omega)).1]
          exact (bs _ _).trans s1
        have mdl : bX9_compared_50 g (o32 (20000 + i)) (mput mr1 137 7 (o32 (p1 + 1))) = some mr' := by
          unfold bX9_compared_50
          rw [if_neg (by rw [show (0 : Int32) = o32 0 from rfl, o_le (by omega) (by omega)]; omega)]
          exact (bs _ _).trans s2
        rw [(pickC_g X q4).1 i hn, Option.bind_some, mdl, t, t, t, hb, fin]
        have out : RES sz m0 mr0 o p L (some m') (some mr') := ⟨m', mr', rfl, rfl, by
          rcases s3 with ⟨p', S, r1, r2, r3, r4⟩ | s3
          · exact .inl ⟨p', S, by omega, r2, r3, r4⟩
          · exact .inr s3⟩
        simp only [List.mem_cons, List.mem_nil_iff, or_false] at o3
        rcases o3 with rfl | rfl | rfl
        · rw [if_pos (show o32 (sg1 2) = 60 by decide), Option.bind_some, if_neg one0]; exact out
        · rw [if_neg (show ¬ o32 (sg1 3) = 60 by decide), Option.bind_some, if_pos rfl, if_pos (show o32 (sg1 3) = 61 by decide), Option.bind_some, if_neg one0]; exact out
        · rw [if_neg (show ¬ o32 (sg1 4) = 60 by decide), Option.bind_some, if_pos rfl, if_neg (show ¬ o32 (sg1 4) = 61 by decide), Option.bind_some, if_pos rfl, if_pos (show o32 (sg1 4) = 62 by decide), Option.bind_some, if_neg one0]; exact out
    · obtain ⟨b1, b2⟩ := bad m1 mr1 e3
      rw [b1, b2]
      exact ⟨m1, mr1, rfl, rfl, .inr e3⟩
  · obtain ⟨m1, mr1, e1, e2, e3⟩ := hf.2 m mr h
    unfold fX2_compared
    dsimp only
    rw [e1, e2, Option.bind_some, Option.bind_some]
    obtain ⟨b1, b2⟩ := bad m1 mr1 e3
    rw [b1, b2]
    exact ⟨m1, mr1, rfl, rfl, e3⟩
theorem both_S {u sz o : Nat} {B : Nat → Nat} {m0 mr0 : Mem} {e : Int32 → Mem → Option Mem} {g : Mem → Option Mem} (X : CX u sz B m0 mr0) (hf : SPEC sz m0 mr0 o (e (o32 o)) g) : SPEC sz m0 mr0 o (fX2_both e (o32 o)) (fX9_both g) := by
  have hf := compared_S X hf
  refine levB (i := 1) (bC := lX2_both_7 e (o32 o)) (bM := lX9_both_4 g) X hf (by omega) (fun p L m mr k h hk hi => ?_) (fun p L m mr k h hk hn => ?_) (fun m mr k h hk => ?_) (fun p L m mr h hi => ?_) (fun p L m mr h hn => ?_) (fun m mr h => ?_)
  · have hb := bt_some hi
    have t := nI_g (n := 0) X h 38
    rw [hb, if_pos (show o32 (sg1 1) = 38 by decide)] at t
    unfold lX2_both_7
    dsimp only
    rw [if_neg (k60 hk), t, Option.bind_some, if_neg one0, show fX5_ofSign 38 = ctok (20000 + 1) from (sgn_tab 1 (by omega)).2, o_s]
    exact bm _ _ _
  · unfold lX2_both_7
    dsimp only
    by_cases c : k = 60
    · rw [if_pos (by rw [c]; decide)]
    · have t := nI_g (n := 0) X h 38
      rw [if_neg (k60 (by omega)), t, if_neg (show ¬ bt sz B p = 38 from bt_none X hn 1 (by simp) (by omega)), Option.bind_some, if_pos rfl]
  · unfold lX2_both_7
    dsimp only
    by_cases c : k = 60
    · rw [if_pos (by rw [c]; decide)]
    · rw [if_neg (k60 (by omega)), nI_b h (by decide)]
      rfl
  · have hb := bt_some hi
    have t := tk_g X h 38
    rw [hb, if_pos (show o32 (sg1 1) = 38 by decide)] at t
    unfold lX9_both_4
    rw [t, Option.bind_some, if_neg one0]
    exact bm _ _ _
  · have t := tk_g X h 38
    rw [if_neg (show ¬ bt sz B p = 38 from bt_none X hn 1 (by simp) (by omega))] at t
    unfold lX9_both_4
    rw [t, Option.bind_some, if_pos rfl]
  · unfold lX9_both_4
    rw [tk_b h (by decide), Option.bind_some, if_pos rfl]
theorem either_S {u sz o : Nat} {B : Nat → Nat} {m0 mr0 : Mem} {e : Int32 → Mem → Option Mem} {g : Mem → Option Mem} (X : CX u sz B m0 mr0) (hf : SPEC sz m0 mr0 o (e (o32 o)) g) : SPEC sz m0 mr0 o (fX2_either e (o32 o)) (fX9_either g) := by
  have hf := both_S X hf
  refine levB (i := 0) (bC := lX2_either_7 e (o32 o)) (bM := lX9_either_4 g) X hf (by omega) (fun p L m mr k h hk hi => ?_) (fun p L m mr k h hk hn => ?_) (fun m mr k h hk => ?_) (fun p L m mr h hi => ?_) (fun p L m mr h hn => ?_) (fun m mr h => ?_)
  · have hb := bt_some hi
    have t := nI_g (n := 0) X h 124
    rw [hb, if_pos (show o32 (sg1 0) = 124 by decide)] at t
    unfold lX2_either_7
    dsimp only
    rw [if_neg (k60 hk), t, Option.bind_some, if_neg one0, show fX5_ofSign 124 = ctok (20000 + 0) from (sgn_tab 0 (by omega)).2, o_s]
    exact bm _ _ _
  · unfold lX2_either_7
    dsimp only
    by_cases c : k = 60
    · rw [if_pos (by rw [c]; decide)]
    · have t := nI_g (n := 0) X h 124
      rw [if_neg (k60 (by omega)), t, if_neg (show ¬ bt sz B p = 124 from bt_none X hn 0 (by simp) (by omega)), Option.bind_some, if_pos rfl]
  · unfold lX2_either_7
    dsimp only
    by_cases c : k = 60
    · rw [if_pos (by rw [c]; decide)]
    · rw [if_neg (k60 (by omega)), nI_b h (by decide)]
      rfl
  · have hb := bt_some hi
    have t := tk_g X h 124
    rw [hb, if_pos (show o32 (sg1 0) = 124 by decide)] at t
    unfold lX9_either_4
    rw [t, Option.bind_some, if_neg one0]
    exact bm _ _ _
  · have t := tk_g X h 124
    rw [if_neg (show ¬ bt sz B p = 124 from bt_none X hn 0 (by simp) (by omega))] at t
    unfold lX9_either_4
    rw [t, Option.bind_some, if_pos rfl]
  · unfold lX9_either_4
    rw [tk_b h (by decide), Option.bind_some, if_pos rfl]
end
section
/-! BOTH READERS: NAMES, NUMBERS -/
noncomputable def ixN (z : Nat) (x : Int32) : Option Int32 := if (fJ1_canEncode_9a6ad x) = 0 then some (-1 : Int32) else if (fJ9_max_7cf53 0 0) < (fJ9_min_7cf53 (fJ0_length_8abf5 z) (sLen z)) then lp (lJ1_indexOfChar_4cfef_7 z (fJ9_min_7cf53 (fJ0_length_8abf5 z) (sLen z)) (x.toInt8.toInt32)) 10 (fJ9_max_7cf53 0 0) else some (-1)
theorem ix_of {z : Nat} {x v : Int32} (h : ixN z x = some v) : fJ0_indexOf_0f7a4 z x = some v := by
  unfold ixN at h
  unfold fJ0_indexOf_0f7a4 fJ0_indexOf_7cf53 fJ1_indexOf_4cfef
  rw [if_neg (show ¬ fJ0_isLatin1_aae02 z = 0 from one0)]
  by_cases c1 : (fJ1_canEncode_9a6ad x) = 0
  · rw [if_pos c1] at h ⊢
    rw [h]
    rfl
  · rw [if_neg c1] at h ⊢
    by_cases c2 : (fJ9_max_7cf53 0 0) < (fJ9_min_7cf53 (fJ0_length_8abf5 z) (sLen z))
    · rw [if_pos c2] at h ⊢
      unfold fJ1_indexOfChar_4cfef
      rw [lp_up _ fu _ h (Nat.le_of_lt (lt_fu (by omega)))]
      rfl
    · rw [if_neg c2] at h ⊢
      rw [h]
      rfl
noncomputable def nmV (u c : Nat) : Int32 := sIxf (o32 c) (jstx (11 + u)) 0
theorem nm_tab : ∀ u, u < 3 → ∀ c, c < 256 → ixN (11 + u) (jI2c (o32 c)) = some (nmV u c) ∧ lp (lX9_nameOf_4 (o32 c) (fun _ _ => o32 u)) 10 (-1, 0) = some (nmV u c) ∧ (nmV u c = -1 ∨ nmV u c = o32 0 ∨ nmV u c = o32 1 ∨ nmV u c = o32 2 ∨ nmV u c = o32 3 ∨ nmV u c = o32 4) := by decide +kernel
theorem name_c {u c : Nat} (hu : u < 3) (hc : c < 256) : fJ0_indexOf_0f7a4 (11 + u) (jI2c (o32 c)) = some (nmV u c) := ix_of (nm_tab u hu c hc).1
theorem name_m {u c : Nat} {m : Mem} (hu : u < 3) (hc : c < 256) (h9 : m 137 9 = o32 u) : fX9_nameOf (o32 c) m = some (nmV u c) := by
  have e : lX9_nameOf_4 (o32 c) m = lX9_nameOf_4 (o32 c) (fun _ _ => o32 u) := by
    funext s
    unfold lX9_nameOf_4
    simp only [h9]
  unfold fX9_nameOf
  rw [e]
  exact lp_up _ fu _ (nm_tab u hu c hc).2.1 (Nat.le_of_lt (lt_fu (by omega)))
theorem nm_5 {u c : Nat} (hu : u < 3) (hc : c < 256) : nmV u c = -1 ∨ ∃ k, k < 5 ∧ nmV u c = o32 k := by
  rcases (nm_tab u hu c hc).2.2 with h | h | h | h | h | h
  · exact .inl h
  · exact .inr ⟨0, by omega, h⟩
  · exact .inr ⟨1, by omega, h⟩
  · exact .inr ⟨2, by omega, h⟩
  · exact .inr ⟨3, by omega, h⟩
  · exact .inr ⟨4, by omega, h⟩
theorem dig_w (x : Int32) : fX2_isDigit x = fX9_within x 48 57 := rfl
theorem bt_cases {u sz : Nat} {B : Nat → Nat} {m0 mr0 : Mem} (X : CX u sz B m0 mr0) (p : Nat) : bt sz B p = -1 ∨ ∃ c, c < 256 ∧ p < sz ∧ bt sz B p = o32 c := by
  unfold bt
  by_cases h : p < sz
  · have := X.2.2.1 p h
    rw [if_pos h]
    exact .inr ⟨B p, by omega, h, rfl⟩
  · rw [if_neg h]
    exact .inl rfl
theorem number_go {u sz o : Nat} {B : Nat → Nat} {m0 mr0 : Mem} {g : Mem → Option Mem} {L : List Nat} (X : CX u sz B m0 mr0) : ∀ d i p v m mr z z', i + d = 4 → 1 ≤ i → v < 10 ^ i → GD sz m0 mr0 o p L m mr → L.length + 1 ≤ p → d < z → d < z' → ∃ m' mr', lp lX2_number_4 z (o32 v, o32 i, m) = some m' ∧ lp (lX9_one_131 g) z' (o32 v, o32 i, mr) = some mr' ∧ ∃ p' w, p ≤ p' ∧ w < 10000 ∧ GD sz m0 mr0 o p' (L ++ [w]) m' mr' := by
  intro d
  induction d with
  | zero =>
    intro i p v m mr z z' hi h1 hv h hl hz hz'
    obtain ⟨z, rfl⟩ : ∃ y, z = y + 1 := ⟨z - 1, by omega⟩
    obtain ⟨z', rfl⟩ : ∃ y, z' = y + 1 := ⟨z' - 1, by omega⟩
    have i4 : i = 4 := by omega
    subst i4
    have hv : v < 10000 := hv
    obtain ⟨m', mr', n1, n2, n3⟩ := note_g (t := v) h X.2.1 hl
    rw [show ctok v = o32 v from if_pos hv] at n1
    refine ⟨m', mr', lp_e ?_, lp_e ?_, p, v, Nat.le_refl _, hv, n3⟩
    · unfold lX2_number_4 bX2_number_48
      dsimp only
      rw [if_pos (show (4 : Int32) ≤ o32 4 by decide), n1]
      rfl
    · unfold lX9_one_131 bX9_one_179
      dsimp only
      rw [if_pos (show (4 : Int32) ≤ o32 4 by decide), n2]
      rfl
  | succ d ih =>
    intro i p v m mr z z' hi h1 hv h hl hz hz'
    obtain ⟨z, rfl⟩ : ∃ y, z = y + 1 := ⟨z - 1, by omega⟩
    obtain ⟨z', rfl⟩ : ∃ y, z' = y + 1 := ⟨z' - 1, by omega⟩
    have n4 : ¬ (4 : Int32) ≤ o32 i := by rw [show (4 : Int32) = o32 4 from rfl, o_le (by omega) (by omega)]; omega
    have hv4 : v < 1000 := Nat.lt_of_lt_of_le hv (by
      have : i ≤ 3 := by omega
      exact Nat.pow_le_pow_right (n := 10) (by omega) this)
    obtain ⟨x1, x2⟩ := nx_g X h
    rcases win (l := 48) (h := 57) (by omega) (by omega) (bt sz B p) with w | ⟨c, c1, c2, c3, c4⟩
    · have w : fX9_within (bt sz B p) 48 57 = 0 := w
      obtain ⟨m', mr', n1, n2, n3⟩ := note_g (t := v) h X.2.1 hl
      rw [show ctok v = o32 v from if_pos (by omega)] at n1
      refine ⟨m', mr', lp_e ?_, lp_e ?_, p, v, Nat.le_refl _, by omega, n3⟩
      · unfold lX2_number_4 bX2_number_48
        dsimp only
        rw [if_neg n4, x1, Option.bind_some, dig_w, if_pos w, n1]
        rfl
      · unfold lX9_one_131 bX9_one_179
        dsimp only
        rw [if_neg n4, x2, Option.bind_some, if_pos w, n2]
        rfl
    · have w : ¬ fX9_within (bt sz B p) 48 57 = 0 := by rw [show fX9_within (bt sz B p) 48 57 = 1 from c4]; exact one0
      have ps : p < sz := by
        have := (bt_255 X (show c < 1000 by omega)).mp c3
        exact this.1
      have ad := adv_g h ps
      have e1 : o32 v * 10 + bt sz B p - 48 = o32 (v * 10 + (c - 48)) := by
        rw [c3, show o32 v * 10 = o32 (v * 10) from o_mul v 10, o_add, show o32 (v * 10 + c) - 48 = o32 (v * 10 + c - 48) from o_sub (b := 48) (by omega) (by omega), show v * 10 + c - 48 = v * 10 + (c - 48) by omega]
      have e2 : 10 * o32 v + bt sz B p - 48 = o32 (v * 10 + (c - 48)) := by
        rw [← e1, Int32.mul_comm]
      have s1 : lX2_number_4 (o32 v, o32 i, m) = some (.inl (o32 (v * 10 + (c - 48)), o32 (i + 1), mput m 118 0 (m 118 0 + 1))) := by
        unfold lX2_number_4
        dsimp only
        rw [if_neg n4, x1, Option.bind_some, dig_w, if_neg w, Option.bind_some, e1, o_s]
      have s2 : lX9_one_131 g (o32 v, o32 i, mr) = some (.inl (o32 (v * 10 + (c - 48)), o32 (i + 1), mput mr 137 7 (o32 (p + 1)))) := by
        unfold lX9_one_131
        dsimp only
        rw [if_neg n4, x2, Option.bind_some, if_neg w, Option.bind_some, e2, o_s, h.2.2.2.1, o_s]
      rw [lp_i s1, lp_i s2]
      obtain ⟨m', mr', r1, r2, p', w', r3, r4, r5⟩ := ih (i + 1) (p + 1) (v * 10 + (c - 48)) _ _ z z' (by omega) (by omega) (by rw [Nat.pow_succ]; omega) ad (by omega) (by omega) (by omega)
      exact ⟨m', mr', r1, r2, p', w', by omega, r4, r5⟩
/-- the first byte is a digit -/
theorem number_R {u sz o p c : Nat} {B : Nat → Nat} {m0 mr0 m mr : Mem} {g : Mem → Option Mem} {L : List Nat} (X : CX u sz B m0 mr0) (h : GD sz m0 mr0 o p L m mr) (hc : bt sz B p = o32 c) (c1 : 48 ≤ c) (c2 : c ≤ 57) : ∃ m' mr', fX2_number m = some m' ∧ lp (lX9_one_131 g) fu (0, 0, mr) = some mr' ∧ ∃ p' w, p + 1 ≤ p' ∧ w < 10000 ∧ GD sz m0 mr0 o p' (L ++ [w]) m' mr' := by
  obtain ⟨x1, x2⟩ := nx_g X h
  have ps : p < sz := ((bt_255 X (show c < 1000 by omega)).mp hc).1
  have w : ¬ fX9_within (bt sz B p) 48 57 = 0 := by
    rw [hc, show fX9_within (o32 c) 48 57 = _ from within_o (l := 48) (h := 57) (by omega) (by omega) (by omega), if_pos ⟨c1, c2⟩]
    exact one0
  have ad := adv_g h ps
  have hl := h.2.2.2.2.2.2.2.1
  have e1 : (0 : Int32) * 10 + bt sz B p - 48 = o32 (c - 48) := by
    rw [hc, show (0 : Int32) * 10 + o32 c = o32 (0 + c) from o_add 0 c, Nat.zero_add]
    exact o_sub (b := 48) (by omega) (by omega)
  have e2 : (10 : Int32) * 0 + bt sz B p - 48 = o32 (c - 48) := e1
  obtain ⟨z, hz⟩ : ∃ y, fu = y + 1 := ⟨fu - 1, by have := lt_fu (n := 1) (by omega); omega⟩
  have z9 : 9 < z := by have := lt_fu (n := 20) (by omega); omega
  have s1 : lX2_number_4 (0, 0, m) = some (.inl (o32 (c - 48), o32 1, mput m 118 0 (m 118 0 + 1))) := by
    unfold lX2_number_4
    dsimp only
    rw [if_neg (by decide), x1, Option.bind_some, dig_w, if_neg w, Option.bind_some, e1]
    rfl
  have s2 : lX9_one_131 g (0, 0, mr) = some (.inl (o32 (c - 48), o32 1, mput mr 137 7 (o32 (p + 1)))) := by
    unfold lX9_one_131
    dsimp only
    rw [if_neg (by decide), x2, Option.bind_some, if_neg w, Option.bind_some, e2, h.2.2.2.1, o_s]
    rfl
  unfold fX2_number
  rw [hz, lp_i s1, lp_i s2]
  exact number_go X 3 1 (p + 1) (c - 48) _ _ z z (by omega) (by omega) (by omega) ad (by omega) (by omega) (by omega)
noncomputable def NT : Nat → Mem → Option Mem
  | 0, m => some m
  | n + 1, m => (fX2_note (fX5_ofSign 33) m).bind (NT n)
theorem nots_c {e : Int32 → Mem → Option Mem} (b : Nat) (hb : b < 1000) : ∀ n a m z, a + n = b → n < z → lp (lX2_single_146 e (o32 b)) z (o32 a, m) = NT n m := by
  intro n
  induction n with
  | zero =>
    intro a m z ha hz
    obtain ⟨z, rfl⟩ : ∃ y, z = y + 1 := ⟨z - 1, by omega⟩
    refine lp_e ?_
    unfold lX2_single_146
    dsimp only
    rw [if_pos (by rw [o_le (by omega) (by omega)]; omega)]
  | succ n ih =>
    intro a m z ha hz
    obtain ⟨z, rfl⟩ : ∃ y, z = y + 1 := ⟨z - 1, by omega⟩
    show _ = (fX2_note (fX5_ofSign 33) m).bind (NT n)
    cases hn : fX2_note (fX5_ofSign 33) m with
    | none =>
      have : lX2_single_146 e (o32 b) (o32 a, m) = none := by
        unfold lX2_single_146
        dsimp only
        rw [if_neg (by rw [o_le (by omega) (by omega)]; omega), hn]
        rfl
      unfold lp
      rw [this]
      rfl
    | some m' =>
      have s1 : lX2_single_146 e (o32 b) (o32 a, m) = some (.inl (o32 (a + 1), m')) := by
        unfold lX2_single_146
        dsimp only
        rw [if_neg (by rw [o_le (by omega) (by omega)]; omega), hn, Option.bind_some, o_s]
      rw [lp_i s1]
      exact ih (a + 1) m' z (by omega) (by omega)
end
section
/-! BOTH READERS: ONE VALUE -/
theorem nots_f {e : Int32 → Mem → Option Mem} {a b : Nat} (m : Mem) (h : a ≤ b) (hb : b < 1000) : lp (lX2_single_146 e (o32 b)) fu (o32 a, m) = NT (b - a) m := nots_c b hb (b - a) a m fu (by omega) (lt_fu (by omega))
theorem NT_s {n : Nat} {m m' : Mem} (h : fX2_note (fX5_ofSign 33) m = some m') : NT (n + 1) m = NT n m' := by
  show (fX2_note (fX5_ofSign 33) m).bind (NT n) = _
  rw [h]
  rfl
theorem open_g {sz o p : Nat} {m0 mr0 m mr : Mem} {L : List Nat} (h : GD sz m0 mr0 o p L m mr) (o' : Nat) : GD sz m0 mr0 o' p L m (mput mr 137 8 (o32 o')) := by
  obtain ⟨⟨f1, f2⟩, h1, h2, h3, h4, h5, h6, h7, h8, h9, h10⟩ := h
  refine ⟨⟨f1, fun c j a b => by rw [mput_get, if_neg (by omega)]; exact f2 c j a b⟩, h1, h2, ?_, h4, ?_, by rw [mput_at], h7, h8, ?_, fun i hi => ⟨(h10 i hi).1, ?_⟩⟩
  · rw [mput_get, if_neg (by omega)]; exact h3
  · rw [mput_get, if_neg (by omega)]; exact h5
  · rw [mput_get, if_neg (by omega)]; exact h9
  · rw [mput_get, if_neg (by omega)]; exact (h10 i hi).2
theorem open_b {sz : Nat} {m0 mr0 m mr : Mem} (h : BD sz m0 mr0 m mr) (x : Int32) : BD sz m0 mr0 m (mput mr 137 8 x) := by
  obtain ⟨⟨f1, f2⟩, ⟨p, p1, p2, p3⟩, h1, h2, n⟩ := h
  exact ⟨⟨f1, fun c j a b => by rw [mput_get, if_neg (by omega)]; exact f2 c j a b⟩, ⟨p, p1, p2, by rw [mput_get, if_neg (by omega)]; exact p3⟩, h1, by rw [mput_get, if_neg (by omega)]; exact h2, n⟩
theorem wrong_g {sz o p : Nat} {m0 mr0 m mr : Mem} {L : List Nat} (h : GD sz m0 mr0 o p L m mr) (hs : sz ≤ 60) : BD sz m0 mr0 (mput m 118 6 1) (mput mr 137 10 1) := by
  obtain ⟨⟨f1, f2⟩, h1, h2, h3, h4, h5, h6, h7, h8, h9, h10⟩ := h
  exact ⟨⟨fun c j a b => by rw [mput_get, if_neg (by omega)]; exact f1 c j a b, fun c j a b => by rw [mput_get, if_neg (by omega)]; exact f2 c j a b⟩, ⟨p, h1, by rw [mput_get, if_neg (by omega)]; exact h2, by rw [mput_get, if_neg (by omega)]; exact h3⟩, by rw [mput_at], by rw [mput_at], L.length, by omega, by rw [mput_get, if_neg (by omega)]; exact h8⟩
theorem wrong_b {sz : Nat} {m0 mr0 m mr : Mem} (h : BD sz m0 mr0 m mr) : mput m 118 6 1 = m ∧ mput mr 137 10 1 = mr := ⟨mput_self h.2.2.1, mput_self h.2.2.2.1⟩
theorem codes_p {m : Mem} (y v : Int32) (h : m 137 10 = 0) (h7 : ∀ q, fX9_codes y m = some q → q 137 7 + 1 = v) : (fX9_codes y m).bind (fun q => some (mput q 137 7 (q 137 7 + 1))) = fX9_codes y (mput m 137 7 v) := by
  have a : (mput m 137 7 v) 137 10 = m 137 10 := by rw [mput_get, if_neg (by omega)]
  have b : (mput m 137 7 v) 137 12 = m 137 12 := by rw [mput_get, if_neg (by omega)]
  unfold fX9_codes at *
  rw [a, b, if_pos h, if_pos h] at *
  by_cases c : inb (m 137 12) 60
  · rw [if_pos c] at h7 ⊢
    rw [if_pos c, Option.bind_some]
    rw [h7 _ rfl]
    congr 1
    rw [mput_c m _ _ (show 137 ≠ 144 by omega), mput_c (mput m 137 7 v) _ _ (show 137 ≠ 144 by omega), b]
    funext x y
    simp only [mput_get]
    split <;> split <;> (try rfl) <;> (try omega)
    all_goals (split <;> (try rfl) <;> (try omega))
    all_goals (split <;> (try rfl) <;> (try omega))
  · rw [if_neg c, if_neg c]
    rfl
theorem close_R {u sz o p : Nat} {B : Nat → Nat} {m0 mr0 m mr : Mem} {L : List Nat} {g : Mem → Option Mem} (X : CX u sz B m0 mr0) (h : GD sz m0 mr0 (o + 1) p L m mr) (ho : o < 100) : ∃ m' mr', fX2_close m = some m' ∧ ((fX9_takes 41 mr).bind fun q6 => if q6.1 = 0 then bX9_one_100 g 1 q6.2 else bX9_one_100 g 0 q6.2) = some mr' ∧ (GD sz m0 mr0 o (p + 1) L m' mr' ∨ BD sz m0 mr0 m' mr') := by
  have os : ∀ M : Mem, M 137 8 = o32 (o + 1) → mput M 137 8 (M 137 8 - 1) = mput M 137 8 (o32 o) := fun M e => by
    rw [e, show o32 (o + 1) - 1 = o32 (o + 1 - 1) from o_sub (b := 1) (by omega) (by omega), Nat.add_sub_cancel]
  have t1 := nI_g (n := 0) X h 41
  have t2 := tk_g X h 41
  unfold fX2_close
  rw [t1, t2, Option.bind_some, Option.bind_some]
  by_cases c : bt sz B p = 41
  · have ps : p < sz := ((bt_255 (n := 41) X (by omega)).mp c).1
    have ad := adv_g h ps
    rw [if_pos c, if_pos c, if_neg one0, if_neg one0]
    unfold bX9_one_100 bX9_one_103
    have w : mput (mput mr 137 7 (o32 (p + 1))) 137 10 0 = mput mr 137 7 (o32 (p + 1)) := mput_self ad.2.2.2.2.2.1
    dsimp only
    rw [if_pos (.inl rfl), w, os _ ad.2.2.2.2.2.2.1]
    exact ⟨_, _, rfl, rfl, .inl (open_g ad o)⟩
  · rw [if_neg c, if_neg c, if_pos rfl, if_pos rfl]
    unfold bX9_one_100 bX9_one_103
    dsimp only
    rw [if_pos (.inr rfl)]
    exact ⟨_, _, rfl, rfl, .inr (open_b (wrong_g h X.2.1) _)⟩
theorem close_B {sz : Nat} {m0 mr0 m mr : Mem} {g : Mem → Option Mem} (h : BD sz m0 mr0 m mr) : ∃ m' mr', fX2_close m = some m' ∧ ((fX9_takes 41 mr).bind fun q6 => if q6.1 = 0 then bX9_one_100 g 1 q6.2 else bX9_one_100 g 0 q6.2) = some mr' ∧ BD sz m0 mr0 m' mr' := by
  unfold fX2_close
  rw [nI_b h (by decide), tk_b h (by decide), Option.bind_some, Option.bind_some, if_pos rfl, if_pos rfl, (wrong_b h).1]
  unfold bX9_one_100 bX9_one_103
  dsimp only
  rw [if_pos (.inr rfl), (wrong_b h).2]
  exact ⟨_, _, rfl, rfl, open_b h _⟩
theorem str_u {u : Nat} (h : u < 3) : strq (o32 (11 + u)).toNatClampNeg := by
  have : ∀ u, u < 3 → strq (o32 (11 + u)).toNatClampNeg := by decide
  exact this u h
theorem nm_sg : ∀ u, u < 3 → nmV u 33 = -1 ∧ nmV u 40 = -1 := by decide +kernel
end
section
/-! BOTH READERS: ONE VALUE, ALL OF IT -/
noncomputable def OK1 (sz : Nat) (m0 mr0 : Mem) (o p : Nat) (L : List Nat) (m mr : Mem) : Prop := (∃ p' S, p < p' ∧ S.length ≤ p' - p ∧ SG S ∧ GD sz m0 mr0 o p' (L ++ S) m mr) ∨ BD sz m0 mr0 m mr
theorem bad_end {u sz o p x1 : Nat} {B : Nat → Nat} {m0 mr0 m mr : Mem} {L : List Nat} {e : Int32 → Mem → Option Mem} (X : CX u sz B m0 mr0) (ho : o ≤ 5) (hx : x1 ≤ o) (h : GD sz m0 mr0 o p L m mr) : ∃ m' mr', bX2_single_138 e (o32 x1) (o32 o) m = NT (o - x1) m' ∧ some (mput mr 137 10 1) = some mr' ∧ OK1 sz m0 mr0 o p L m' mr' := ⟨_, _, nots_f _ hx (by omega), rfl, .inr (wrong_g h X.2.1)⟩
theorem m218 {g : Mem → Option Mem} {x : Int32} (mr : Mem) : bX9_one_218 g x 1 mr = some (mput mr 137 10 1) := by
  unfold bX9_one_218
  rw [if_pos (.inr rfl), mput_at, if_neg one0]
theorem m31b {g : Mem → Option Mem} {x : Int32} (mr : Mem) : bX9_one_31 g x 1 mr = some (mput mr 137 10 1) := by
  unfold bX9_one_31
  rw [if_pos (.inr rfl), mput_at, if_neg one0]
theorem m200 {g : Mem → Option Mem} {mr : Mem} (h : mr 137 10 = 0) : bX9_one_200 g (-1) mr = some (mput mr 137 10 1) := by
  unfold bX9_one_200
  rw [if_pos h, if_neg (show ¬ (0 : Int32) ≤ -1 by decide), m218]
theorem plain_R {u sz o p x1 : Nat} {B : Nat → Nat} {m0 mr0 m mr : Mem} {L : List Nat} {e : Int32 → Mem → Option Mem} {g : Mem → Option Mem} (X : CX u sz B m0 mr0) (ho : o ≤ 5) (hx : x1 ≤ o) (hE : o < 5 → SPEC sz m0 mr0 (o + 1) (fX2_either e (o32 (o + 1))) (fX9_either g)) (h : GD sz m0 mr0 o p L m mr) (hs : bt sz B p = 33 → o = 5) : ∃ m' mr', bX2_single_32 e (o32 x1) (o32 o) m = NT (o - x1) m' ∧ fX9_one g mr = some mr' ∧ OK1 sz m0 mr0 o p L m' mr' := by
  obtain ⟨x1', x2'⟩ := nx_g X h
  have H := h
  obtain ⟨⟨f1, f2⟩, h1, h2, h3, h4, h5, h6, h7, h8, h9, h10⟩ := H
  have s5 : m 118 5 = o32 (11 + u) := (f1 118 5 (by omega) (by omega)).trans X.2.2.2.2.1
  have s9 : mr 137 9 = o32 u := (f2 137 9 (by omega) (by omega)).trans X.2.2.2.2.2.2.2.2
  have st : (o32 (11 + u)).toNatClampNeg = 11 + u := o_tn (by have := X.1; omega)
  unfold bX2_single_32 fX9_one
  rw [x1', x2', Option.bind_some, Option.bind_some]
  rcases bt_cases X p with b | ⟨c, c1, ps, b⟩
  · rw [b, if_neg (show ¬ (0 : Int32) ≤ -1 by decide), if_neg (show ¬ (-1 : Int32) = 33 by decide), if_neg (show ¬ (-1 : Int32) = 40 by decide), if_pos (show fX9_within (-1) 48 57 = 0 by decide), if_neg (show ¬ (0 : Int32) ≤ -1 by decide), m200 h5]
    unfold bX2_single_54 bX2_single_103
    rw [if_pos (show fX2_isDigit (-1) = 0 by decide), if_pos (show (-1 : Int32) < 0 by decide), if_neg (show ¬ (-1 : Int32) = 40 by decide)]
    exact bad_end X ho hx h
  · have ge : (0 : Int32) ≤ o32 c := by rw [show (0 : Int32) = o32 0 from rfl, o_le (by omega) (by omega)]; omega
    have e33 : o32 c = 33 ↔ c = 33 := o_eq (b := 33) (by omega) (by omega)
    have e40 : o32 c = 40 ↔ c = 40 := o_eq (b := 40) (by omega) (by omega)
    have wi : fX9_within (o32 c) 48 57 = _ := within_o (l := 48) (h := 57) (x := c) (by omega) (by omega) (by omega)
    rw [b] at hs ⊢
    rw [if_pos ge, s5, if_pos (show strq (o32 (11 + u)).toNatClampNeg from str_u X.1), st, name_c X.1 c1, Option.bind_some]
    unfold bX2_single_54
    rw [dig_w]
    by_cases dg : 48 ≤ c ∧ c ≤ 57
    · have w : ¬ fX9_within (o32 c) 48 57 = 0 := by rw [wi, if_pos dg]; exact one0
      have q33 : ¬ o32 c = 33 := fun q => by have := e33.mp q; omega
      have q40 : ¬ o32 c = 40 := fun q => by have := e40.mp q; omega
      rw [if_neg w, if_neg w, if_neg q33, if_neg q40]
      obtain ⟨m', mr', n1, n2, p', v, n3, n4, n5⟩ := number_R (g := g) X h b dg.1 dg.2
      rw [n1, n2, Option.bind_some]
      exact ⟨m', mr', nots_f _ hx (by omega), rfl, .inl ⟨p', [v], by omega, by rw [List.length_singleton]; omega, SG_one (by omega), n5⟩⟩
    · have w : fX9_within (o32 c) 48 57 = 0 := by rw [wi, if_neg dg]
      rw [if_pos w, if_pos w, if_pos ge, name_m X.1 c1 s9, Option.bind_some]
      rcases nm_5 X.1 c1 with v | ⟨k, k5, v⟩
      · rw [v, if_pos (show (-1 : Int32) < 0 by decide), m200 h5]
        unfold bX2_single_103
        by_cases c40 : c = 40
        · have q33 : ¬ o32 c = 33 := fun q => by have := e33.mp q; omega
          rw [if_pos (e40.mpr c40), if_neg q33, if_pos (e40.mpr c40)]
          unfold bX9_one_17
          rw [h6]
          by_cases o5 : o = 5
          · rw [if_pos (show (5 : Int32) ≤ o32 o by rw [o5]; decide), if_pos (show o32 o = 5 by rw [o5]; rfl), m31b]
            exact bad_end X ho hx h
          · have le5 : ¬ (5 : Int32) ≤ o32 o := by rw [show (5 : Int32) = o32 5 from rfl, o_le (by omega) (by omega)]; omega
            have ne5 : ¬ o32 o = 5 := fun q => o5 ((o_eq (b := 5) (by omega) (by omega)).mp q)
            rw [if_neg le5, if_neg ne5]
            unfold bX9_one_31
            rw [if_pos (.inl rfl), mput_self h5, if_pos h5, if_neg q33, h6, o_s]
            have m7 : (mput mr 137 8 (o32 (o + 1))) 137 7 + 1 = o32 (p + 1) := by rw [mput_get, if_neg (by omega), h3, o_s]
            rw [m7]
            have G := adv_g (open_g h (o + 1)) ps
            obtain ⟨mE, mrE, q1, q2, q3⟩ := (hE (by omega)).1 _ _ _ _ G
            rw [q1, q2, Option.bind_some, Option.bind_some]
            rcases q3 with ⟨p', S, r1, r2, r3, r4⟩ | bd
            · obtain ⟨m', mr', t1, t2, t3⟩ := close_R (g := g) X r4 (by omega)
              rw [t1, Option.bind_some]
              refine ⟨m', mr', nots_f _ hx (by omega), t2, ?_⟩
              rcases t3 with t3 | t3
              · exact .inl ⟨p' + 1, S, by omega, by omega, r3, t3⟩
              · exact .inr t3
            · obtain ⟨m', mr', t1, t2, t3⟩ := close_B (g := g) bd
              rw [t1, Option.bind_some]
              exact ⟨m', mr', nots_f _ hx (by omega), t2, .inr t3⟩
        · have q40 : ¬ o32 c = 40 := fun q => c40 (e40.mp q)
          rw [if_neg q40]
          by_cases c33 : c = 33
          · have o5 := hs (e33.mpr c33)
            rw [if_pos (e33.mpr c33)]
            unfold bX9_one_17
            rw [if_pos (show mr 137 8 = 5 by rw [h6, o5]; rfl), m31b]
            exact bad_end X ho hx h
          · have q33 : ¬ o32 c = 33 := fun q => c33 (e33.mp q)
            rw [if_neg q33, if_neg q40]
            exact bad_end X ho hx h
      · have n5 : ∀ k, k < 5 → ¬ o32 k = -1 := by decide
        have nn : nmV u c ≠ -1 := fun q => n5 k k5 (v.symm.trans q)
        have c33 : ¬ c = 33 := fun q => nn (by rw [q]; exact (nm_sg u X.1).1)
        have c40 : ¬ c = 40 := fun q => nn (by rw [q]; exact (nm_sg u X.1).2)
        have k1 : ∀ k, k < 5 → ¬ o32 k < 0 ∧ ¬ (5 : Int32) ≤ o32 k ∧ 0 ≤ o32 k ∧ fX5_ofName (o32 k) = ctok (10000 + k) ∧ (10000 : Int32) + o32 k = o32 (10000 + k) := by decide
        obtain ⟨k2, k3, k4, k6, k7⟩ := k1 k k5
        have q33 : ¬ o32 c = 33 := fun q => c33 (e33.mp q)
        have q40 : ¬ o32 c = 40 := fun q => c40 (e40.mp q)
        rw [v, if_neg k2, if_neg k3, if_neg q33, if_neg q40, k6]
        unfold bX9_one_200 bX9_one_218
        rw [if_pos h5, if_pos k4, if_pos (.inl rfl), mput_self h5, if_pos h5, k7]
        have ad := adv_g h ps
        obtain ⟨m', mr', n1, n2, n3⟩ := note_g (t := 10000 + k) ad X.2.1 (by omega)
        have s60 := X.2.1
        rw [codes_p _ (o32 (p + 1)) h5 (fun q hq => by
          unfold fX9_codes at hq
          rw [if_pos h5, h9, if_pos (o_inb (show L.length < 60 by omega) (by omega))] at hq
          cases hq
          rw [mput_get, if_neg (by omega), mput_get, if_neg (by omega), h3, o_s]), n1, n2, Option.bind_some]
        exact ⟨m', mr', nots_f _ hx (by omega), rfl, .inl ⟨p + 1, [10000 + k], by omega, by rw [List.length_singleton]; omega, SG_one (by omega), n3⟩⟩
theorem one_b {sz n n' o : Nat} {m0 mr0 m mr : Mem} (h : BD sz m0 mr0 m mr) : ∃ m' mr', nX2_single (n + 1) (o32 o) m = some m' ∧ nX9_one (n' + 1) mr = some mr' ∧ BD sz m0 mr0 m' mr' := by
  obtain ⟨z, hz⟩ : ∃ y, fu = y + 1 := ⟨fu - 1, by have := lt_fu (n := 1) (by omega); omega⟩
  have L0 : lp (lX2_single_146 (nX2_single n) (o32 o)) fu (o32 o, m) = some m := by
    rw [hz]
    refine lp_e ?_
    unfold lX2_single_146
    dsimp only
    rw [if_pos (Int32.le_refl _)]
  have b32 : bX2_single_32 (nX2_single n) (o32 o) (o32 o) m = some m := by
    unfold bX2_single_32
    rw [(nx_b h).1, Option.bind_some, if_neg (show ¬ (0 : Int32) ≤ -1 by decide)]
    unfold bX2_single_54 bX2_single_103 bX2_single_138
    rw [if_pos (show fX2_isDigit (-1) = 0 by decide), if_pos (show (-1 : Int32) < 0 by decide), if_neg (show ¬ (-1 : Int32) = 40 by decide), (wrong_b h).1, L0]
  refine ⟨m, mr, ?_, ?_, h⟩
  · show fX2_single (nX2_single n) (o32 o) m = _
    unfold fX2_single
    rw [hz]
    refine lp_e ?_
    unfold lX2_single_2
    dsimp only
    rw [nI_b h (by decide), Option.bind_some, if_pos rfl, b32]
    split <;> rfl
  · show fX9_one (nX9_one n') mr = _
    unfold fX9_one
    rw [(nx_b h).2, Option.bind_some, if_neg (show ¬ (-1 : Int32) = 33 by decide), if_neg (show ¬ (-1 : Int32) = 40 by decide), if_pos (show fX9_within (-1) 48 57 = 0 by decide), if_neg (show ¬ (0 : Int32) ≤ -1 by decide)]
    unfold bX9_one_200
    rw [h.2.2.2.1, if_neg one0, m218, (wrong_b h).2]
end
section
/-! BOTH READERS: THE WHOLE TEXT -/
theorem one_S {u sz : Nat} {B : Nat → Nat} {m0 mr0 : Mem} (X : CX u sz B m0 mr0) : ∀ h n n' o x1, h ≤ n → h ≤ n' → o + h = 5 → x1 ≤ o → ∀ p L m mr z, h < z → GD sz m0 mr0 o p L m mr → ∃ m' mr', lp (lX2_single_2 (nX2_single n) (o32 x1)) z (o32 o, m) = NT (o - x1) m' ∧ nX9_one (n' + 1) mr = some mr' ∧ OK1 sz m0 mr0 o p L m' mr' := by
  intro h
  induction h with
  | zero =>
    intro n n' o x1 hn hn' ho hx p L m mr z hz hg
    obtain ⟨z, rfl⟩ : ∃ y, z = y + 1 := ⟨z - 1, by omega⟩
    obtain ⟨m', mr', a1, a2, a3⟩ := plain_R (e := nX2_single n) (g := nX9_one n') X (show o ≤ 5 by omega) hx (fun q => absurd q (by omega)) hg (fun _ => by omega)
    refine ⟨m', mr', ?_, a2, a3⟩
    have s1 : lX2_single_2 (nX2_single n) (o32 x1) (o32 o, m) = (bX2_single_32 (nX2_single n) (o32 x1) (o32 o) m).map Sum.inr := by
      unfold lX2_single_2
      dsimp only
      rw [if_pos (show (5 : Int32) ≤ o32 o by rw [show o = 5 by omega]; decide)]
    unfold lp
    rw [s1, a1]
    cases NT (o - x1) m' <;> rfl
  | succ h ih =>
    intro n n' o x1 hn hn' ho hx p L m mr z hz hg
    obtain ⟨z, rfl⟩ : ∃ y, z = y + 1 := ⟨z - 1, by omega⟩
    have le5 : ¬ (5 : Int32) ≤ o32 o := by rw [show (5 : Int32) = o32 5 from rfl, o_le (by omega) (by omega)]; omega
    have t1 := nI_g (n := 0) X hg 33
    by_cases c : bt sz B p = 33
    · have ps : p < sz := ((bt_255 (n := 33) X (by omega)).mp c).1
      rw [if_pos c] at t1
      have s1 : lX2_single_2 (nX2_single n) (o32 x1) (o32 o, m) = some (.inl (o32 (o + 1), mput m 118 0 (m 118 0 + 1))) := by
        unfold lX2_single_2
        dsimp only
        rw [if_neg le5, t1, Option.bind_some, if_neg one0, o_s]
      rw [lp_i s1]
      obtain ⟨n', rfl⟩ : ∃ y, n' = y + 1 := ⟨n' - 1, by omega⟩
      have G := adv_g (open_g hg (o + 1)) ps
      obtain ⟨m', mr', a1, a2, a3⟩ := ih n n' (o + 1) x1 (by omega) (by omega) (by omega) (by omega) _ _ _ _ z (by omega) G
      have h5 := hg.2.2.2.2.2.1
      have h6 := hg.2.2.2.2.2.2.1
      have h3 := hg.2.2.2.1
      have m7 : (mput mr 137 8 (o32 (o + 1))) 137 7 + 1 = o32 (p + 1) := by rw [mput_get, if_neg (by omega), h3, o_s]
      have ne5 : ¬ o32 o = 5 := fun q => by have := (o_eq (b := 5) (by omega) (by omega)).mp q; omega
      have e1 : nX9_one (n' + 1 + 1) mr = (fX9_codes 20010 mr').bind fun q4 => bX9_one_103 (nX9_one (n' + 1)) q4 := by
        show fX9_one (nX9_one (n' + 1)) mr = _
        unfold fX9_one
        rw [(nx_g X hg).2, Option.bind_some, c, if_pos rfl]
        unfold bX9_one_17
        rw [h6, if_neg ne5]
        unfold bX9_one_31
        rw [if_pos (.inl rfl), mput_self h5, if_pos h5, if_pos rfl, h6, o_s, m7, a2, Option.bind_some]
      have os : ∀ M : Mem, M 137 8 = o32 (o + 1) → bX9_one_103 (nX9_one (n' + 1)) M = some (mput M 137 8 (o32 o)) := fun M e => by
        unfold bX9_one_103
        rw [e, show o32 (o + 1) - 1 = o32 (o + 1 - 1) from o_sub (b := 1) (by omega) (by omega), Nat.add_sub_cancel]
      rw [a1, e1, show o + 1 - x1 = o - x1 + 1 by omega]
      rcases a3 with ⟨p', S, r1, r2, r3, r4⟩ | bd
      · have hl := hg.2.2.2.2.2.2.2.1
        obtain ⟨m2, mr2, n1, n2, n3⟩ := note_g (t := 20010) r4 X.2.1 (by rw [List.length_append]; omega)
        have n1 : fX2_note (fX5_ofSign 33) m' = some m2 := n1
        have n2 : fX9_codes 20010 mr' = some mr2 := n2
        rw [NT_s n1, n2, Option.bind_some, os _ n3.2.2.2.2.2.2.1]
        refine ⟨m2, _, rfl, rfl, .inl ⟨p', S ++ [20010], by omega, by rw [List.length_append, List.length_singleton]; omega, SG_not r3, ?_⟩⟩
        rw [← List.append_assoc]
        exact open_g n3 o
      · obtain ⟨m2, mr2, n1, n2, n3⟩ := note_b bd (fX5_ofSign 33) 20010
        rw [NT_s n1, n2, Option.bind_some]
        unfold bX9_one_103
        exact ⟨m2, _, rfl, rfl, .inr (open_b n3 _)⟩
    · rw [if_neg c] at t1
      have E : SPEC sz m0 mr0 (o + 1) (fX2_either (nX2_single n) (o32 (o + 1))) (fX9_either (nX9_one n')) := by
        obtain ⟨n, rfl⟩ : ∃ y, n = y + 1 := ⟨n - 1, by omega⟩
        obtain ⟨n', rfl⟩ : ∃ y, n' = y + 1 := ⟨n' - 1, by omega⟩
        refine either_S X ⟨fun p L m mr hg => ?_, fun m mr hb => ?_⟩
        · obtain ⟨m', mr', a1, a2, a3⟩ := ih n n' (o + 1) (o + 1) (by omega) (by omega) (by omega) (Nat.le_refl _) p L m mr fu (lt_fu (by omega)) hg
          rw [Nat.sub_self] at a1
          exact ⟨m', mr', a1, a2, a3⟩
        · exact one_b hb
      obtain ⟨m', mr', a1, a2, a3⟩ := plain_R (e := nX2_single n) (g := nX9_one n') X (show o ≤ 5 by omega) hx (fun _ => E) hg (fun q => absurd q c)
      refine ⟨m', mr', ?_, a2, a3⟩
      have s1 : lX2_single_2 (nX2_single n) (o32 x1) (o32 o, m) = (bX2_single_32 (nX2_single n) (o32 x1) (o32 o) m).map Sum.inr := by
        unfold lX2_single_2
        dsimp only
        rw [if_neg le5, t1, Option.bind_some, if_pos rfl]
      unfold lp
      rw [s1, a1]
      cases NT (o - x1) m' <;> rfl
theorem all_S {u sz : Nat} {B : Nat → Nat} {m0 mr0 : Mem} (X : CX u sz B m0 mr0) : SPEC sz m0 mr0 0 (fX2_either (nX2_single 8) 0) (fX9_either (nX9_one 8)) := by
  refine either_S (o := 0) X ⟨fun p L m mr hg => ?_, fun m mr hb => ?_⟩
  · obtain ⟨m', mr', a1, a2, a3⟩ := one_S X 5 7 7 0 0 (by omega) (by omega) (by omega) (Nat.le_refl _) p L m mr fu (lt_fu (by omega)) hg
    exact ⟨m', mr', a1, a2, a3⟩
  · exact one_b hb
end

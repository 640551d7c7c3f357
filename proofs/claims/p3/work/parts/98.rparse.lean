/-! BOTH READERS: ONE BYTE, ONE NOTE -/
def CX (u sz : Nat) (B : Nat → Nat) (m0 mr0 : Mem) : Prop := u < 3 ∧ sz ≤ 60 ∧ (∀ j, j < sz → B j ≤ 255) ∧ m0 118 4 = o32 sz ∧ m0 118 5 = o32 (11 + u) ∧ (∀ j, j < sz → m0 120 j = o32 (B j)) ∧ mr0 138 1 = o32 sz ∧ (∀ j, j < sz → mr0 138 (812 + j) = o32 (B j)) ∧ mr0 137 9 = o32 u
def FRm (m0 mr0 m mr : Mem) : Prop := (∀ c j, c ≠ 119 → ¬ (c = 118 ∧ (j = 0 ∨ j = 1 ∨ j = 6)) → m c j = m0 c j) ∧ ∀ c j, c ≠ 144 → ¬ (c = 137 ∧ (j = 7 ∨ j = 8 ∨ j = 10 ∨ j = 12)) → mr c j = mr0 c j
def GD (sz : Nat) (m0 mr0 : Mem) (o p : Nat) (L : List Nat) (m mr : Mem) : Prop := FRm m0 mr0 m mr ∧ p ≤ sz ∧ m 118 0 = o32 p ∧ mr 137 7 = o32 p ∧ m 118 6 = 0 ∧ mr 137 10 = 0 ∧ mr 137 8 = o32 o ∧ L.length ≤ p ∧ m 118 1 = o32 L.length ∧ mr 137 12 = o32 L.length ∧ ∀ i, (h : i < L.length) → m 119 i = ctok L[i] ∧ mr 144 i = o32 L[i]
def BD (sz : Nat) (m0 mr0 m mr : Mem) : Prop := FRm m0 mr0 m mr ∧ (∃ p, p ≤ sz ∧ m 118 0 = o32 p ∧ mr 137 7 = o32 p) ∧ m 118 6 = 1 ∧ mr 137 10 = 1 ∧ ∃ n, n ≤ 60 ∧ m 118 1 = o32 n
def bt (sz : Nat) (B : Nat → Nat) (p : Nat) : Int32 := if p < sz then o32 (B p) else -1
theorem nx_g {u sz o p : Nat} {B : Nat → Nat} {m0 mr0 m mr : Mem} {L : List Nat} (X : CX u sz B m0 mr0) (h : GD sz m0 mr0 o p L m mr) : fX2_next m = some (bt sz B p) ∧ fX9_here mr = some (bt sz B p) := by
  obtain ⟨x1, x2, x3, x4, x5, x6, x7, x8, x9⟩ := X
  obtain ⟨⟨f1, f2⟩, h1, h2, h3, h4, h5, h6, h7, h8, h9, h10⟩ := h
  have s4 : m 118 4 = o32 sz := (f1 118 4 (by omega) (by omega)).trans x4
  have s1 : mr 138 1 = o32 sz := (f2 138 1 (by omega) (by omega)).trans x7
  unfold fX2_next fX9_here bt
  rw [h2, h3, h4, h5, s4, s1, if_pos rfl, if_pos rfl, if_neg (not_lt0 (by omega))]
  by_cases c : p < sz
  · have nle : ¬ o32 sz ≤ o32 p := by rw [o_le (by omega) (by omega)]; omega
    have n60 : ¬ (60 : Int32) ≤ o32 p := by rw [show (60 : Int32) = o32 60 from rfl, o_le (by omega) (by omega)]; omega
    rw [if_neg nle, if_neg n60, if_pos (o_inb (show p < 60 by omega) (by omega)), if_neg nle, show (812 : Int32) + o32 p = o32 (812 + p) from o_add 812 p, if_pos (o_inb (show 812 + p < 1082 by omega) (by omega)), o_tn (show p < 2147483648 by omega), o_tn (show 812 + p < 2147483648 by omega), f1 120 p (by omega) (by omega), f2 138 (812 + p) (by omega) (by omega), x6 p c, x8 p c, if_pos c]
    exact ⟨rfl, rfl⟩
  · have le : o32 sz ≤ o32 p := by rw [o_le (by omega) (by omega)]; omega
    rw [if_pos le, if_pos le, if_neg c]
    exact ⟨rfl, rfl⟩
theorem nx_b {sz : Nat} {m0 mr0 m mr : Mem} (h : BD sz m0 mr0 m mr) : fX2_next m = some (-1) ∧ fX9_here mr = some (-1) := by
  obtain ⟨_, _, h1, h2, _⟩ := h
  unfold fX2_next fX9_here
  rw [h1, h2, if_neg one0, if_neg one0]
  exact ⟨rfl, rfl⟩
theorem mput_self {m : Mem} {c j : Nat} {x : Int32} (h : m c j = x) : mput m c j x = m := by
  funext a b
  rw [mput_get]
  by_cases e : a = c ∧ b = j
  · rw [if_pos e, e.1, e.2, h]
  · rw [if_neg e]
theorem bt_255 {u sz p : Nat} {B : Nat → Nat} {m0 mr0 : Mem} (X : CX u sz B m0 mr0) {n : Nat} (hn : n < 1000) : bt sz B p = o32 n ↔ p < sz ∧ B p = n := by
  unfold bt
  by_cases c : p < sz
  · have := X.2.2.1 p c
    rw [if_pos c, o_eq (by omega) (by omega)]
    exact ⟨fun z => ⟨c, z⟩, fun z => z.2⟩
  · rw [if_neg c]
    exact ⟨fun z => absurd z.symm (o_neg1 (by omega)), fun z => absurd z.1 c⟩
theorem nI_g {u sz o p n : Nat} {B : Nat → Nat} {m0 mr0 m mr : Mem} {L : List Nat} (X : CX u sz B m0 mr0) (h : GD sz m0 mr0 o p L m mr) (x : Int32) : fX2_nextIs x m = some (if bt sz B p = x then 1 else 0) := by
  unfold fX2_nextIs
  rw [(nx_g X h).1, Option.bind_some]
  split <;> rfl
theorem nI_b {sz : Nat} {m0 mr0 m mr : Mem} (h : BD sz m0 mr0 m mr) {x : Int32} (hx : ¬ (-1 : Int32) = x) : fX2_nextIs x m = some 0 := by
  unfold fX2_nextIs
  rw [(nx_b h).1, Option.bind_some, if_neg hx]
theorem tk_g {u sz o p : Nat} {B : Nat → Nat} {m0 mr0 m mr : Mem} {L : List Nat} (X : CX u sz B m0 mr0) (h : GD sz m0 mr0 o p L m mr) (x : Int32) : fX9_takes x mr = some (if bt sz B p = x then (1, mput mr 137 7 (o32 (p + 1))) else (0, mr)) := by
  have h7 := h.2.2.2.1
  unfold fX9_takes bX9_takes_13 bX9_takes_28
  rw [(nx_g X h).2, Option.bind_some, h7]
  by_cases c : bt sz B p = x
  · rw [if_pos c, if_pos c, if_neg one0, if_pos (.inr rfl), o_s]
  · rw [if_neg c, if_neg c, if_pos rfl, if_pos (.inl rfl), show o32 p + 0 = o32 p from o_add p 0, mput_self h7]
theorem tk_b {sz : Nat} {m0 mr0 m mr : Mem} (h : BD sz m0 mr0 m mr) {x : Int32} (hx : ¬ (-1 : Int32) = x) : fX9_takes x mr = some (0, mr) := by
  obtain ⟨p, _, _, h7⟩ := h.2.1
  unfold fX9_takes bX9_takes_13 bX9_takes_28
  rw [(nx_b h).2, Option.bind_some, h7, if_neg hx, if_pos rfl, if_pos (.inl rfl), show o32 p + 0 = o32 p from o_add p 0, mput_self h7]
/-- one byte on -/
theorem adv_g {sz o p : Nat} {m0 mr0 m mr : Mem} {L : List Nat} (h : GD sz m0 mr0 o p L m mr) (hp : p < sz) : GD sz m0 mr0 o (p + 1) L (mput m 118 0 (m 118 0 + 1)) (mput mr 137 7 (o32 (p + 1))) := by
  obtain ⟨⟨f1, f2⟩, h1, h2, h3, h4, h5, h6, h7, h8, h9, h10⟩ := h
  refine ⟨⟨fun c j a b => by rw [mput_get, if_neg (by omega)]; exact f1 c j a b, fun c j a b => by rw [mput_get, if_neg (by omega)]; exact f2 c j a b⟩, by omega, by rw [mput_at, h2, o_s], by rw [mput_at], ?_, ?_, ?_, by omega, ?_, ?_, fun i hi => ?_⟩
  · rw [mput_get, if_neg (by omega)]; exact h4
  · rw [mput_get, if_neg (by omega)]; exact h5
  · rw [mput_get, if_neg (by omega)]; exact h6
  · rw [mput_get, if_neg (by omega)]; exact h8
  · rw [mput_get, if_neg (by omega)]; exact h9
  · rw [mput_get, if_neg (by omega), mput_get, if_neg (by omega)]; exact h10 i hi
theorem note_g {sz o p t : Nat} {m0 mr0 m mr : Mem} {L : List Nat} (h : GD sz m0 mr0 o p L m mr) (hs : sz ≤ 60) (hl : L.length + 1 ≤ p) : ∃ m' mr', fX2_note (ctok t) m = some m' ∧ fX9_codes (o32 t) mr = some mr' ∧ GD sz m0 mr0 o p (L ++ [t]) m' mr' := by
  obtain ⟨⟨f1, f2⟩, h1, h2, h3, h4, h5, h6, h7, h8, h9, h10⟩ := h
  have ll : (L ++ [t]).length = L.length + 1 := by rw [List.length_append, List.length_singleton]
  unfold fX2_note fX9_codes
  rw [h8, h9, h5, if_neg (by rw [show (60 : Int32) = o32 60 from rfl, o_le (by omega) (by omega)]; omega), if_pos (o_inb (by omega) (by omega)), if_pos rfl, if_pos (o_inb (by omega) (by omega)), o_tn (by omega), mput_c m _ _ (show 118 ≠ 119 by omega), mput_c mr _ _ (show 137 ≠ 144 by omega), h8, h9, o_s]
  refine ⟨_, _, rfl, rfl, ⟨fun c j a b => ?_, fun c j a b => ?_⟩, h1, ?_, ?_, ?_, ?_, ?_, by omega, ?_, ?_, fun i hi => ?_⟩
  · rw [mput_get, if_neg (by omega), mput_c _ _ _ a]; exact f1 c j a b
  · rw [mput_get, if_neg (by omega), mput_c _ _ _ a]; exact f2 c j a b
  · rw [mput_get, if_neg (by omega), mput_c _ _ _ (by omega)]; exact h2
  · rw [mput_get, if_neg (by omega), mput_c _ _ _ (by omega)]; exact h3
  · rw [mput_get, if_neg (by omega), mput_c _ _ _ (by omega)]; exact h4
  · rw [mput_get, if_neg (by omega), mput_c _ _ _ (by omega)]; exact h5
  · rw [mput_get, if_neg (by omega), mput_c _ _ _ (by omega)]; exact h6
  · rw [mput_at, ll]
  · rw [mput_at, ll]
  · have A : ∀ (M : Mem) (c c' n q : Nat) (x y : Int32), c ≠ c' → (mput (mput M c n x) c' q y) c i = if i = n then x else M c i := fun M c c' n q x y h => by
      rw [mput_c _ _ _ h, mput_get]
      simp only [true_and]
    rw [A _ _ _ _ _ _ _ (show 119 ≠ 118 by omega), A _ _ _ _ _ _ _ (show 144 ≠ 137 by omega), List.getElem_append]
    by_cases e : i = L.length
    · rw [if_pos e, if_pos e, dif_neg (by omega)]
      simp [e]
    · rw [if_neg e, if_neg e, dif_pos (by omega)]
      exact h10 i (by omega)
theorem note_b {sz : Nat} {m0 mr0 m mr : Mem} (h : BD sz m0 mr0 m mr) (x y : Int32) : ∃ m' mr', fX2_note x m = some m' ∧ fX9_codes y mr = some mr' ∧ BD sz m0 mr0 m' mr' := by
  have hh := h
  obtain ⟨⟨f1, f2⟩, ⟨p, p1, p2, p3⟩, h1, h2, n, n1, n2⟩ := h
  unfold fX2_note fX9_codes
  rw [h2, if_neg one0, n2]
  by_cases c : n = 60
  · rw [if_pos (by rw [c]; decide)]
    exact ⟨_, _, rfl, rfl, hh⟩
  · rw [if_neg (by rw [show (60 : Int32) = o32 60 from rfl, o_le (by omega) (by omega)]; omega), if_pos (o_inb (by omega) (by omega)), o_tn (by omega), mput_c m _ _ (show 118 ≠ 119 by omega), n2, o_s]
    refine ⟨_, _, rfl, rfl, ⟨fun c j a b => ?_, f2⟩, ⟨p, p1, ?_, p3⟩, ?_, h2, n + 1, by omega, by rw [mput_at]⟩
    · rw [mput_get, if_neg (by omega), mput_c _ _ _ a]; exact f1 c j a b
    · rw [mput_get, if_neg (by omega), mput_c _ _ _ (by omega)]; exact p2
    · rw [mput_get, if_neg (by omega), mput_c _ _ _ (by omega)]; exact h1
/-- codes of one value -/
def SG (S : List Nat) : Prop := (∀ d, S.foldl stp (some d) = some (d + 1)) ∧ ∀ t ∈ S, otok t
theorem SG_op {S T : List Nat} {t : Nat} (h1 : SG S) (h2 : SG T) (ht : 20000 ≤ t) (ht2 : t < 20010) : SG (S ++ T ++ [t]) := by
  refine ⟨fun d => ?_, fun x hx => ?_⟩
  · rw [List.foldl_append, List.foldl_append, h1.1 d, h2.1 (d + 1)]
    show (if t < 20000 then some (d + 1 + 1 + 1) else if t = 20010 then _ else if 2 ≤ d + 1 + 1 then some (d + 1 + 1 - 1) else none) = _
    rw [if_neg (by omega), if_neg (by omega), if_pos (by omega)]
    rfl
  · rcases List.mem_append.mp hx with z | z
    · rcases List.mem_append.mp z with z | z
      · exact h1.2 x z
      · exact h2.2 x z
    · rw [List.mem_singleton.mp z]
      exact .inr ⟨ht, by omega⟩
theorem SG_not {S : List Nat} (h1 : SG S) : SG (S ++ [20010]) := by
  refine ⟨fun d => ?_, fun x hx => ?_⟩
  · rw [List.foldl_append, h1.1 d]
    show (if 20010 < 20000 then some (d + 1 + 1) else if 20010 = 20010 then (if 1 ≤ d + 1 then some (d + 1) else none) else if 2 ≤ d + 1 then some (d + 1 - 1) else none) = _
    rw [if_neg (by omega), if_pos rfl, if_pos (by omega)]
  · rcases List.mem_append.mp hx with z | z
    · exact h1.2 x z
    · rw [List.mem_singleton.mp z]
      exact .inr (by omega)
theorem SG_one {t : Nat} (h : t < 10005) : SG [t] := by
  refine ⟨fun d => ?_, fun x hx => by rw [List.mem_singleton.mp hx]; exact .inl h⟩
  show (if t < 20000 then some (d + 1) else _) = _
  rw [if_pos (by omega)]
def RES (sz : Nat) (m0 mr0 : Mem) (o p : Nat) (L : List Nat) (a b : Option Mem) : Prop := ∃ m mr, a = some m ∧ b = some mr ∧ ((∃ p' S, p < p' ∧ S.length ≤ p' - p ∧ SG S ∧ GD sz m0 mr0 o p' (L ++ S) m mr) ∨ BD sz m0 mr0 m mr)
def SPEC (sz : Nat) (m0 mr0 : Mem) (o : Nat) (f g : Mem → Option Mem) : Prop := (∀ p L m mr, GD sz m0 mr0 o p L m mr → RES sz m0 mr0 o p L (f m) (g mr)) ∧ ∀ m mr, BD sz m0 mr0 m mr → ∃ m' mr', f m = some m' ∧ g mr = some mr' ∧ BD sz m0 mr0 m' mr'

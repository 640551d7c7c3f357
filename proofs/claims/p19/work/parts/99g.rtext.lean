/-! A TEXT IS READ -/
theorem RL_of {mc mr mc' mr' : Mem} {r : Nat → List Nat} {al : Nat → Bool} {f : Nat → Nat → Nat} {q : Nat → List Nat} (h : RLx mc mr) (w : WS 0 mc' (mr' 138) r al f q) (c : ∀ a j, ¬ ((1 ≤ a ∧ a ≤ 39) ∨ (118 ≤ a ∧ a ≤ 120)) → mc' a j = mc a j) (k : ∀ a j, a ≠ 138 → a ≠ 144 → ¬ (a = 137 ∧ 7 ≤ j ∧ j ≤ 12) → mr' a j = mr a j) : RLx mc' mr' := RL_k h ⟨r, al, f, q, w⟩ (fun a j ha => c a j (by omega)) (fun a j ha => k a j (by omega) (by omega) (by omega))
theorem names_u : ∀ u, u < 3 → fX2_namesOf (o32 u) = 11 + u := by decide
theorem cw0 (o : Nat) (h : 1 ≤ o) : cw 0 o = o := by
  unfold cw
  omega
/-- the end: the model's codes laid out -/
theorem lay_m {u : Nat} {S : List Nat} {m1 : Mem} (hu : u < 3) (hl : S.length ≤ 60) (h9 : m1 137 9 = o32 u) (h12 : m1 137 12 = o32 S.length) (hc : ∀ i, (h : i < S.length) → m1 144 i = o32 S[i]) : ∃ m2, lp lX9_text_118 fu (0, m1) = some (1, m2) ∧ (∀ c j, ¬ (c = 138 ∧ 896 + 62 * u + 1 ≤ j ∧ j < 896 + 62 * u + 1 + S.length) → m2 c j = m1 c j) ∧ ∀ i, (h : i < S.length) → m2 138 (896 + 62 * u + 1 + i) = o32 S[i] := by
  have key := lp_ix (body := lX9_text_118) (fun i s => s.1 = o32 i ∧ (∀ c j, ¬ (c = 138 ∧ 896 + 62 * u + 1 ≤ j ∧ j < 896 + 62 * u + 1 + i) → s.2 c j = m1 c j) ∧ ∀ k, k < i → (h : k < S.length) → s.2 138 (896 + 62 * u + 1 + k) = o32 S[k]) (fun g => g = (1, g.2) ∧ (∀ c j, ¬ (c = 138 ∧ 896 + 62 * u + 1 ≤ j ∧ j < 896 + 62 * u + 1 + S.length) → g.2 c j = m1 c j) ∧ ∀ i, (h : i < S.length) → g.2 138 (896 + 62 * u + 1 + i) = o32 S[i]) S.length 0 (0, m1) fu ⟨rfl, fun _ _ _ => rfl, fun _ h => absurd h (by omega)⟩ (fun i s _ hi hJ => ?_) (fun s hJ => ?_) (lt_fu (by omega))
  · obtain ⟨g, e1, e2, e3, e4⟩ := key
    rw [e1, e2]
    exact ⟨_, rfl, e3, e4⟩
  · obtain ⟨j1, j2, j3⟩ := hJ
    rw [Nat.zero_add] at hi
    unfold lX9_text_118
    have n12 : ¬ o32 S.length ≤ o32 i := by rw [o_le (by omega) (by omega)]; omega
    have a : (896 : Int32) + 62 * o32 u + 1 + o32 i = o32 (896 + 62 * u + 1 + i) := by
      rw [show (62 : Int32) * o32 u = o32 (62 * u) from o_mul 62 u, show (896 : Int32) + o32 (62 * u) = o32 (896 + 62 * u) from o_add 896 _, o_s, o_add]
    rw [j1, j2 137 12 (by omega), j2 137 9 (by omega), h12, h9, if_neg n12, if_pos (o_inb (show i < 60 by omega) (by omega)), a, if_pos (o_inb (show 896 + 62 * u + 1 + i < 1082 by omega) (by omega)), o_tn (show i < 2147483648 by omega), o_tn (show 896 + 62 * u + 1 + i < 2147483648 by omega), j2 144 i (by omega), hc i hi, o_s]
    refine ⟨_, rfl, rfl, fun c j h1 => ?_, fun k hk hl => ?_⟩
    · dsimp only
      rw [mput_get, if_neg (by omega)]
      exact j2 c j (by omega)
    · dsimp only
      rw [mput_get]
      by_cases e : k = i
      · subst e
        rw [if_pos ⟨rfl, rfl⟩]
      · rw [if_neg (by omega)]
        exact j3 k (by omega) hl
  · obtain ⟨j1, j2, j3⟩ := hJ
    rw [Nat.zero_add] at j1 j2 j3
    unfold lX9_text_118
    rw [j1, j2 137 12 (by omega), h12, if_pos (Int32.le_refl _)]
    exact ⟨_, rfl, rfl, j2, fun i hi => j3 i hi hi⟩
theorem text_o {mc mr : Mem} (h : RLx mc mr) (x : Int32) : Sm (fX8_text x mc) (fX9_text x mr) := by
  have hh := h
  obtain ⟨⟨r, al, f, q, w⟩, _⟩ := h
  obtain ⟨⟨n, n1, n2, n3⟩, t2, t3, t4⟩ := WS_8 w
  unfold fX8_text fX9_text
  rw [wi_eq]
  rcases win (l := 0) (h := 2) (by omega) (by omega) x with z | ⟨u, _, u2, rfl, u4⟩
  · rw [if_pos (show fX9_within x 0 2 = 0 from z), if_pos (show fX9_within x 0 2 = 0 from z)]
    exact err1 hh
  have z : ¬ fX9_within (o32 u) 0 2 = 0 := by rw [show fX9_within (o32 u) 0 2 = 1 from u4]; exact one0
  have hu : u < 3 := by omega
  rw [if_neg z, if_neg z, n3]
  unfold fX2_read_60
  have mx : fJ9_max_7cf53 0 (fJ9_min_7cf53 (o32 n) (fJ9_min_7cf53 60 60)) = o32 n := by
    rw [show fJ9_min_7cf53 60 60 = o32 60 from min_b (a := 60) (b := 60) (by omega) (by omega), min_b (by omega) (by omega), show fJ9_max_7cf53 0 (o32 (min n 60)) = _ from max_b (a := 0) (by omega) (by omega)]
    congr 1
    omega
  have cp : cpin 0 0 (o32 n) 60 60 := ⟨by decide, by decide, o_ge0 (by omega), by rw [o_tn (by omega)]; show 0 + _ ≤ _; omega, by rw [o_tn (by omega)]; show 0 + _ ≤ _; omega⟩
  rw [mx, mput_at, if_pos cp, names_u u hu, if_pos (show 11 + u < 100 by omega), o_tn (show n < 2147483648 by omega), show Int32.ofNat (11 + u) = o32 (11 + u) from rfl]
  generalize hm0 : mput (mput (mput (mput (mcpy (mput mc 118 4 (o32 n)) (cw 0 36) 120 0 0 n) 118 5 (o32 (11 + u))) 118 0 0) 118 1 0) 118 6 0 = m0
  generalize hr0 : mput (mput (mput (mput (mput mr 137 9 (o32 u)) 137 7 0) 137 8 0) 137 10 0) 137 12 0 = mr0
  have c0 : ∀ c j, c ≠ 118 → ¬ (c = 120 ∧ j < n) → m0 c j = mc c j := fun c j h1 h2 => by
    rw [← hm0, mput_get, if_neg (by omega), mput_get, if_neg (by omega), mput_get, if_neg (by omega), mput_get, if_neg (by omega), mcpy_get, if_neg (by omega), mput_get, if_neg (by omega)]
  have r0 : ∀ c j, ¬ (c = 137 ∧ 7 ≤ j ∧ j ≤ 12) → mr0 c j = mr c j := fun c j h1 => by
    rw [← hr0, mput_get, if_neg (by omega), mput_get, if_neg (by omega), mput_get, if_neg (by omega), mput_get, if_neg (by omega), mput_get, if_neg (by omega)]
  have v := t2
  let B : Nat → Nat := fun j => (mc (cw 0 36) j).toNatClampNeg
  have hB : ∀ j, j < n → B j ≤ 255 ∧ mr 138 (812 + j) = o32 (B j) ∧ mc (cw 0 36) j = o32 (B j) := fun j hj => by
    obtain ⟨b, b1, b2, b3⟩ := t2 j (by omega)
    have : B j = b := by show (mc (cw 0 36) j).toNatClampNeg = b; rw [b3, o_tn (by omega)]
    rw [this]
    exact ⟨b1, b2, b3⟩
  have X : CX u n B m0 mr0 := by
    refine ⟨hu, n1, fun j hj => (hB j hj).1, ?_, ?_, fun j hj => ?_, ?_, fun j hj => ?_, ?_⟩
    · rw [← hm0, mput_get, if_neg (by omega), mput_get, if_neg (by omega), mput_get, if_neg (by omega), mput_get, if_neg (by omega), mcpy_get, if_neg (by omega), mput_at]
    · rw [← hm0, mput_get, if_neg (by omega), mput_get, if_neg (by omega), mput_get, if_neg (by omega), mput_at]
    · rw [← hm0, mput_get, if_neg (by omega), mput_get, if_neg (by omega), mput_get, if_neg (by omega), mput_get, if_neg (by omega), mcpy_get, if_pos (by omega), mput_get, if_neg (fun e => by have := e.1; unfold cw at this; omega), show 0 + (j - 0) = j by omega]
      exact (hB j hj).2.2
    · rw [r0 _ _ (by omega)]; exact n2
    · rw [r0 _ _ (by omega)]; exact (hB j hj).2.1
    · rw [← hr0, mput_get, if_neg (by omega), mput_get, if_neg (by omega), mput_get, if_neg (by omega), mput_get, if_neg (by omega), mput_at]
  have G : GD n m0 mr0 0 0 [] m0 mr0 := by
    refine ⟨⟨fun _ _ _ _ => rfl, fun _ _ _ _ => rfl⟩, by omega, ?_, ?_, ?_, ?_, ?_, Nat.le_refl _, ?_, ?_, fun i hi => absurd hi (by rw [List.length_nil]; omega)⟩
    · rw [← hm0, mput_get, if_neg (by omega), mput_get, if_neg (by omega), mput_at]; rfl
    · rw [← hr0, mput_get, if_neg (by omega), mput_get, if_neg (by omega), mput_get, if_neg (by omega), mput_at]; rfl
    · rw [← hm0, mput_at]
    · rw [← hr0, mput_get, if_neg (by omega), mput_at]
    · rw [← hr0, mput_get, if_neg (by omega), mput_get, if_neg (by omega), mput_at]; rfl
    · rw [← hm0, mput_get, if_neg (by omega), mput_at]; rfl
    · rw [← hr0, mput_at]; rfl
  obtain ⟨m, m9, p1, p2, p3⟩ := (all_S X).1 0 [] m0 mr0 G
  rw [p1, p2, Option.bind_some, Option.bind_some]
  have fr : FRm m0 mr0 m m9 := by
    rcases p3 with ⟨_, _, _, _, _, g⟩ | b
    · exact g.1
    · exact b.1
  have f1 : ∀ c j, c ≠ 118 → c ≠ 119 → c ≠ 120 → m c j = mc c j := fun c j h1 h2 h3 => (fr.1 c j h2 (by omega)).trans (c0 c j h1 (by omega))
  have f2 : ∀ c j, c ≠ 144 → ¬ (c = 137 ∧ 7 ≤ j ∧ j ≤ 12) → m9 c j = mr c j := fun c j h1 h2 => (fr.2 c j h1 (by omega)).trans (r0 c j h2)
  have f4 : m 118 4 = o32 n := (fr.1 118 4 (by omega) (by omega)).trans X.2.2.2.1
  have f9 : m9 137 9 = o32 u := (fr.2 137 9 (by omega) (by omega)).trans X.2.2.2.2.2.2.2.2
  have f138 : m9 138 1 = o32 n := (f2 138 1 (by omega) (by omega)).trans n2
  have W : ∀ v, WS 0 (mput m (cw 0 1) 3 0) (mput (mput m9 137 10 v) 138 1 0 138) r al f q := fun v => by
    refine WS_tp w (fun o j ho h1 h2 h3 => ?_) (fun j h1 h2 h3 => ?_) ⟨⟨0, by omega, ?_, ?_⟩, fun i hi => ?_, ?_, fun i hi => ?_⟩
    · obtain ⟨o', e', ho'⟩ := ho
      have := cw_inj e'
      rw [mput_get, if_neg (fun z => h1 ⟨cw_inj z.1, .inl z.2⟩)]
      exact f1 _ _ (by unfold cw; omega) (by unfold cw; omega) (by unfold cw; omega)
    · rw [mput_get, if_neg (by omega), mput_get, if_neg (by omega)]
      exact f2 _ _ (by omega) (by omega)
    · rw [mput_at]; rfl
    · rw [mput_at]; rfl
    · rw [mput_get, if_neg (by omega), mput_get, if_neg (by omega), mput_c _ _ _ (cw_ne (by omega)), f2 _ _ (by omega) (by omega), f1 _ _ (by unfold cw; omega) (by unfold cw; omega) (by unfold cw; omega)]
      exact t2 i hi
    · rw [mput_get, if_neg (by omega), mput_get, if_neg (by omega), mput_j _ _ _ _ (by omega), f2 _ _ (by omega) (by omega), f1 _ _ (by unfold cw; omega) (by unfold cw; omega) (by unfold cw; omega)]
      exact t3
    · rw [mput_get, if_neg (by omega), mput_get, if_neg (by omega), mput_c _ _ _ (cw_ne (by omega)), f2 _ _ (by omega) (by omega), f1 _ _ (by unfold cw; omega) (by unfold cw; omega) (by unfold cw; omega)]
      exact t4 i hi
  have RL : ∀ v, RLx (mput m (cw 0 1) 3 0) (mput (mput m9 137 10 v) 138 1 0) := fun v => RL_of hh (W v) (fun a j ha => by rw [mput_get, if_neg (fun e => by have := e.1; unfold cw at this; omega)]; exact f1 a j (by omega) (by omega) (by omega)) (fun a j h1 h2 h3 => by rw [mput_get, if_neg (by omega), mput_get, if_neg (by omega)]; exact f2 a j h2 h3)
  have bad : ∀ p, m 118 0 = o32 p → m9 137 7 = o32 p → Sm ((some ((0 : Int32), m)).bind fun q3 => if q3.1 = 0 then some (-10 - (mput q3.2 (cw 0 1) 3 0) 118 0, mput q3.2 (cw 0 1) 3 0) else if inb (o32 u) 3 then (fX5_take_60 0 (o32 u).toNatClampNeg 119 ((mput q3.2 (cw 0 1) 3 0) 118 1) (mput q3.2 (cw 0 1) 3 0)).bind fun q5 => some (1, q5) else none) (bX9_text_71 1 m9) := fun p a1 a2 => by
    unfold bX9_text_71
    rw [Option.bind_some, if_pos rfl, if_pos (.inr rfl), mput_c _ _ _ (show 137 ≠ 138 by omega), mput_at, if_neg one0, mput_j m9 _ _ _ (show 7 ≠ 10 by omega), a2, mput_c _ _ _ (show 118 ≠ cw 0 1 by unfold cw; omega)]
    dsimp only
    rw [a1]
    exact ⟨_, _, _, rfl, rfl, RL 1⟩
  rcases p3 with ⟨p, S, s1, s2, s3, g⟩ | ⟨_, ⟨p, b1, b2, b3⟩, b4, b5, _⟩
  · obtain ⟨_, g1, g2, g3, g4, g5, g6, g7, g8, g9, g10⟩ := g
    rw [List.nil_append] at g7 g8 g9 g10
    rw [g4, if_pos rfl, g5, if_pos rfl, g2, g3, f4, f138]
    by_cases c : p = n
    · subst c
      rw [if_pos rfl, if_pos (Int32.le_refl _), Option.bind_some, if_neg one0, if_pos (o_inb hu (by omega)), mput_c m _ _ (show 118 ≠ cw 0 1 by unfold cw; omega), g8, o_tn (show u < 2147483648 by omega)]
      unfold fX5_take_60 bX9_text_71
      have l60 : ¬ (60 : Int32) < o32 S.length := by rw [show (60 : Int32) = o32 60 from rfl, o_lt (by omega) (by omega)]; omega
      have cp : cpin 0 0 (o32 S.length) 60 60 := ⟨by decide, by decide, o_ge0 (by omega), by rw [o_tn (by omega)]; show 0 + _ ≤ _; omega, by rw [o_tn (by omega)]; show 0 + _ ≤ _; omega⟩
      have a : (896 : Int32) + 62 * o32 u = o32 (896 + 62 * u) := by
        rw [show (62 : Int32) * o32 u = o32 (62 * u) from o_mul 62 u, show (896 : Int32) + o32 (62 * u) = o32 (896 + 62 * u) from o_add 896 _]
      rw [if_neg (not_lt0 (by omega)), if_neg l60, if_neg l60, if_pos cp, o_tn (show S.length < 2147483648 by omega), if_pos (.inl rfl), Option.bind_some, mput_self g5]
      dsimp only
      have w2 := W 0
      have rl2 := RL 0
      rw [mput_self g5] at w2 rl2
      have e10 : mput m9 138 1 0 137 10 = 0 := by rw [mput_c _ _ _ (show 137 ≠ 138 by omega)]; exact g5
      have e9 : mput m9 138 1 0 137 9 = o32 u := by rw [mput_c _ _ _ (show 137 ≠ 138 by omega)]; exact f9
      have e12 : mput m9 138 1 0 137 12 = o32 S.length := by rw [mput_c _ _ _ (show 137 ≠ 138 by omega)]; exact g9
      rw [e10, if_pos rfl, e9, a, if_pos (o_inb (show 896 + 62 * u < 1082 by omega) (by omega)), e12, o_tn (show 896 + 62 * u < 2147483648 by omega)]
      generalize hm1 : mput m9 138 1 0 = m1 at *
      obtain ⟨m2, l1, l2, l3⟩ := lay_m (u := u) (S := S) (m1 := mput m1 138 (896 + 62 * u) (o32 S.length)) hu (by omega) (by rw [mput_c _ _ _ (show 137 ≠ 138 by omega)]; exact e9) (by rw [mput_c _ _ _ (show 137 ≠ 138 by omega)]; exact e12) (fun i hi => by rw [mput_c _ _ _ (show 144 ≠ 138 by omega), ← hm1, mput_c _ _ _ (show 144 ≠ 138 by omega)]; exact (g10 i hi).2)
      rw [l1]
      generalize hc1 : mput m (cw 0 1) 3 0 = c1 at *
      have k2 : ∀ c j, ¬ (c = 138 ∧ 896 + 62 * u ≤ j ∧ j < 896 + 62 * u + 62) → m2 c j = m1 c j := fun c j hc => by
        rw [l2 c j (by omega), mput_get, if_neg (by omega)]
      refine ⟨_, _, _, rfl, rfl, RL_of rl2 (WS_txt w2 hu (fun o j ho h1 h2 => ?_) (fun j hj => k2 138 j (by omega)) (l := S) ⟨by omega, s3.2, fun _ => s3.1 0, ?_, ?_, fun i hi => ⟨l3 i hi, ?_⟩⟩) (fun a j ha => ?_) (fun a j h1 h2 h3 => k2 a j (by omega))⟩
      · rw [mput_c _ _ _ (cw_ne h1), mcpy_c _ _ _ _ (cw_ne h2)]
      · rw [l2 _ _ (by omega), mput_at]
      · rw [mput_at]
      · rw [mput_c _ _ _ (cw_ne (by omega)), mcpy_get, if_pos ⟨rfl, by omega, by omega⟩, show 0 + (i - 0) = i by omega, ← hc1, mput_c _ _ _ (show 119 ≠ cw 0 1 by unfold cw; omega)]
        exact (g10 i hi).1
      · rw [mput_c _ _ _ (by unfold cw; omega), mcpy_c _ _ _ _ (by unfold cw; omega)]
    · rw [if_neg (fun e => c ((o_eq (by omega) (by omega)).mp e)), if_neg (fun e => by rw [o_le (by omega) (by omega)] at e; omega)]
      exact bad p g2 g3
  · rw [b4, if_neg one0, b5, if_neg one0]
    exact bad p b2 b3

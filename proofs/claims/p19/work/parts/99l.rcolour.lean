/-! COLOUR: BOTH ANSWER -/
theorem RL_any {mc mr m1 mr1 : Mem} (h : RLx mc mr) (c : ∀ a j, (a < 119 ∨ (129 ≤ a ∧ a ≤ 135) ∨ (a = 125 ∧ j = 1)) → m1 a j = mc a j) (k : ∀ a j, (a = 138 ∨ a = 139 ∨ (a = 137 ∧ (j = 3 ∨ j = 19)) ∨ (151 ≤ a ∧ a ≤ 153)) → mr1 a j = mr a j) : RLx m1 mr1 := by
  have hh := h
  obtain ⟨⟨r, al, f, q, w⟩, _⟩ := h
  exact RL_k hh ⟨r, al, f, q, WS_same w (fun a j ha => c a j (by obtain ⟨o, e, ho⟩ := ha; unfold cw at e; omega)) (fun j => k 138 j (by omega))⟩ (fun a j ha => c a j (by omega)) (fun a j ha => k a j (by omega))
noncomputable def P12 (m m' : Mem) : Prop := ∀ c j, c ≠ 122 → c ≠ 124 → m' c j = m c j
theorem min4 (y : Int32) : fJ9_min_7cf53 4 y ≤ 4 := by
  unfold fJ9_min_7cf53
  split
  · rename_i h
    exact Int32.le_of_lt h
  · exact Int32.le_refl _
theorem paint_n : ∀ n i x2 x3 m, 17 ≤ i + n → i ≤ 16 → 1 ≤ n → ∃ v m', nX3_paintFrom n (o32 i) x2 x3 m = some (v, m') ∧ (v = 0 ∨ v = 1) ∧ P12 m m' := by
  intro n
  induction n with
  | zero => intro i x2 x3 m h h16 h1; omega
  | succ n ih =>
    intro i x2 x3 m h h16 h1
    show ∃ v m', fX3_paintFrom (nX3_paintFrom n) (o32 i) x2 x3 m = some (v, m') ∧ _
    unfold fX3_paintFrom
    rw [if_neg (not_lt0 (by omega))]
    by_cases c : i = 16
    · rw [if_neg (show ¬ o32 i < 16 by rw [c]; decide)]
      exact ⟨_, _, rfl, .inr rfl, fun _ _ _ _ => rfl⟩
    · have l16 : o32 i < 16 := by rw [show (16 : Int32) = o32 16 from rfl, o_lt (by omega) (by omega)]; omega
      rw [if_pos l16]
      split
      · obtain ⟨v, m', e1, e2, e3⟩ := ih (i + 1) x2 x3 m (by omega) (by omega) (by omega)
        rw [o_s, e1, Option.bind_some, if_pos e2]
        exact ⟨v, m', rfl, e2, e3⟩
      · have le4 := min4 (fJ9_min_7cf53 x2 (x3 + 1))
        generalize fJ9_min_7cf53 4 (fJ9_min_7cf53 x2 (x3 + 1)) = x4 at le4
        have key := lp_inv (body := lX3_paintFrom_49 (nX3_paintFrom n) (o32 i) x2 x3 x4) (fun s => (∃ j, j ≤ 4 ∧ s.1 = o32 j) ∧ P12 m s.2) (fun s => 5 - s.1.toNatClampNeg) (fun e => (e.1 = 0 ∨ e.1 = 1) ∧ P12 m e.2) (fun s hI => ?_) fu (0, m) ⟨⟨0, by omega, rfl⟩, fun _ _ _ _ => rfl⟩ (lt_fu (by show 5 - _ < _; omega))
        · obtain ⟨e, e1, e2, e3⟩ := key
          exact ⟨e.1, e.2, e1, e2, e3⟩
        · obtain ⟨⟨j, j1, j2⟩, hP⟩ := hI
          unfold lX3_paintFrom_49
          rw [j2]
          by_cases g : x4 ≤ o32 j
          · right
            rw [if_pos g]
            exact ⟨_, rfl, .inl rfl, hP⟩
          · have j4 : j < 4 := by
              refine Classical.byContradiction fun hh => g ?_
              rw [show j = 4 by omega]
              exact le4
            have st : ∀ M, P12 m M → ∃ s' : Int32 × Mem, (some (.inl (o32 j + 1, M)) : Option ((Int32 × Mem) ⊕ (Int32 × Mem))) = some (.inl s') ∧ ((∃ j, j ≤ 4 ∧ s'.1 = o32 j) ∧ P12 m s'.2) ∧ 5 - s'.1.toNatClampNeg < 5 - (o32 j).toNatClampNeg := fun M hM => ⟨(o32 j + 1, M), rfl, ⟨⟨j + 1, by omega, o_s j⟩, hM⟩, by rw [show ((o32 j + 1, M) : Int32 × Mem).1 = o32 (j + 1) from o_s j, o_tn (show j + 1 < 2147483648 by omega), o_tn (show j < 2147483648 by omega)]; omega⟩
            rw [if_neg g, if_pos (o_inb (show j < 4 by omega) (by omega)), if_pos (o_inb (show i < 16 by omega) (by omega)), if_pos (o_inb (show j < 4 by omega) (by omega)), if_pos (o_inb (show j < 4 by omega) (by omega)), if_pos (o_inb (show i < 16 by omega) (by omega))]
            split
            · obtain ⟨v, m', e1, e2, e3⟩ := ih (i + 1) x2 (fJ9_max_7cf53 x3 (o32 j + 1)) (mput (mput s.2 124 (o32 j).toNatClampNeg ((s.2 124 (o32 j).toNatClampNeg) ||| (jShl 1 (o32 i)))) 122 (o32 i).toNatClampNeg (o32 j)) (by omega) (by omega) (by omega)
              have hM : P12 m m' := fun c j a b => by
                rw [e3 c j a b, mput_c _ _ _ a, mput_c _ _ _ b]
                exact hP c j a b
              rw [o_s i, e1, Option.bind_some]
              rcases e2 with e2 | e2
              · left
                rw [if_pos e2, if_pos (o_inb (show j < 4 by omega) (by omega)), if_pos (o_inb (show j < 4 by omega) (by omega))]
                exact st _ (fun c j a b => by dsimp only; rw [mput_c _ _ _ b]; exact hM c j a b)
              · right
                rw [if_neg (show ¬ v = 0 by rw [e2]; decide)]
                exact ⟨_, rfl, .inr rfl, hM⟩
            · left
              exact st _ hP
theorem mayBe_s {mr : Mem} {r : Nat → List Nat} {al : Nat → Bool} {a : Nat} (h : RS mr r al) (ha : a < 16) (ala : al a = true) (x : Int32) : ∃ v, fX9_mayBe (o32 a) x mr = some v := by
  unfold fX9_mayBe
  have key := lp_ix (body := lX9_mayBe_5 (o32 a) x mr) (fun i s => s.2 = o32 i ∧ (s.1 = 0 ∨ s.1 = 1)) (fun _ => True) a 0 (1, 0) fu ⟨rfl, .inr rfl⟩ (fun i s _ hi hI => ?_) (fun s hI => ?_) (lt_fu (by omega))
  · obtain ⟨e, e1, _⟩ := key
    exact ⟨e, e1⟩
  · obtain ⟨i1, i2⟩ := hI
    have hi : i < 16 := by omega
    unfold lX9_mayBe_5
    rw [i1, if_neg (show ¬ o32 a ≤ o32 i by rw [o_le (by omega) (by omega)]; omega), is_s hi h, Option.bind_some, isWall_s ha (by omega) ((h a ha).2 ala), Option.bind_some, if_pos (o_inb hi (by omega)), o_s]
    generalize (if i ∈ r a then (1 : Int32) else 0) = wl
    have s0 : ∃ s', (some (.inl ((0 : Int32), o32 (i + 1))) : Option ((Int32 × Int32) ⊕ Int32)) = some (.inl s') ∧ s'.2 = o32 (i + 1) ∧ (s'.1 = 0 ∨ s'.1 = 1) := ⟨_, rfl, rfl, .inl rfl⟩
    have s1 : ∃ s', (some (.inl ((1 : Int32), o32 (i + 1))) : Option ((Int32 × Int32) ⊕ Int32)) = some (.inl s') ∧ s'.2 = o32 (i + 1) ∧ (s'.1 = 0 ∨ s'.1 = 1) := ⟨_, rfl, rfl, .inr rfl⟩
    split
    · exact s0
    · split
      · exact s1
      · split
        · exact s1
        · split
          · exact s0
          · exact s1
  · obtain ⟨i1, i2⟩ := hI
    unfold lX9_mayBe_5
    rw [Nat.zero_add] at i1
    rw [i1, if_pos (Int32.le_refl _), if_pos i2]
    exact ⟨_, rfl, trivial⟩
theorem coloured_n {mr : Mem} {r : Nat → List Nat} {al : Nat → Bool} {k : Nat} (hs : RS mr r al) (hk : k < 100) : ∀ n i m, 17 ≤ i + n → i ≤ 16 → 1 ≤ n → (∀ c j, c ≠ 148 → m c j = mr c j) → ∃ v m', nX9_coloured n (o32 i) (o32 k) m = some (v, m') ∧ (v = 0 ∨ v = 1) ∧ ∀ c j, c ≠ 148 → m' c j = mr c j := by
  intro n
  induction n with
  | zero => intro i m h h16 h1; omega
  | succ n ih =>
    intro i m h h16 h1 hm
    have hS : ∀ M : Mem, (∀ c j, c ≠ 148 → M c j = mr c j) → RS M r al := fun M h => RS_same hs (fun j _ _ => h 138 j (by omega))
    show ∃ v m', fX9_coloured (nX9_coloured n) (o32 i) (o32 k) m = some (v, m') ∧ _
    unfold fX9_coloured
    by_cases c : i = 16
    · rw [if_pos (show o32 i = 16 by rw [c]; rfl)]
      exact ⟨_, _, rfl, .inr rfl, hm⟩
    · have ne : ¬ o32 i = 16 := fun e => c ((o_eq (b := 16) (by omega) (by omega)).mp e)
      have hi : i < 16 := by omega
      rw [if_neg ne, is_s hi (hS m hm), Option.bind_some]
      cases ala : al i with
      | false =>
        obtain ⟨v, m', e1, e2, e3⟩ := ih (i + 1) m (by omega) (by omega) (by omega) hm
        rw [if_pos (show i01 false = 0 by decide), o_s, e1, Option.bind_some, if_pos e2]
        exact ⟨v, m', rfl, e2, e3⟩
      | true =>
        rw [if_neg (show ¬ i01 true = 0 by decide)]
        have key := lp_inv (body := lX9_coloured_27 (nX9_coloured n) (o32 i) (o32 k)) (fun s => (∃ j, j ≤ k ∧ s.1 = o32 j) ∧ ∀ c j, c ≠ 148 → s.2 c j = mr c j) (fun s => 200 - s.1.toNatClampNeg) (fun e => (e.1 = 0 ∨ e.1 = 1) ∧ ∀ c j, c ≠ 148 → e.2 c j = mr c j) (fun s hI => ?_) fu (0, m) ⟨⟨0, by omega, rfl⟩, hm⟩ (lt_fu (by show 200 - _ < _; omega))
        · obtain ⟨e, e1, e2, e3⟩ := key
          exact ⟨e.1, e.2, e1, e2, e3⟩
        · obtain ⟨⟨j, j1, j2⟩, hP⟩ := hI
          unfold lX9_coloured_27
          rw [j2]
          by_cases g : j = k
          · right
            rw [if_pos (show o32 k ≤ o32 j by rw [g]; exact Int32.le_refl _)]
            exact ⟨_, rfl, .inl rfl, hP⟩
          · have ng : ¬ o32 k ≤ o32 j := by rw [o_le (by omega) (by omega)]; omega
            have st : ∀ M : Mem, (∀ c j, c ≠ 148 → M c j = mr c j) → ∃ s' : Int32 × Mem, (some (.inl (o32 j + 1, M)) : Option ((Int32 × Mem) ⊕ (Int32 × Mem))) = some (.inl s') ∧ ((∃ j, j ≤ k ∧ s'.1 = o32 j) ∧ ∀ c j, c ≠ 148 → s'.2 c j = mr c j) ∧ 200 - s'.1.toNatClampNeg < 200 - (o32 j).toNatClampNeg := fun M hM => ⟨(o32 j + 1, M), rfl, ⟨⟨j + 1, by omega, o_s j⟩, hM⟩, by rw [show ((o32 j + 1, M) : Int32 × Mem).1 = o32 (j + 1) from o_s j, o_tn (show j + 1 < 2147483648 by omega), o_tn (show j < 2147483648 by omega)]; omega⟩
            obtain ⟨b, hb⟩ := mayBe_s (hS s.2 hP) hi ala (o32 j)
            rw [if_neg ng, hb, Option.bind_some]
            split
            · left
              exact st _ hP
            · obtain ⟨v, m', e1, e2, e3⟩ := ih (i + 1) (mput s.2 148 (o32 i).toNatClampNeg (o32 j)) (by omega) (by omega) (by omega) (fun c j hc => by rw [mput_c _ _ _ hc]; exact hP c j hc)
              rw [if_pos (o_inb hi (by omega)), o_s i, e1, Option.bind_some]
              rcases e2 with e2 | e2
              · left
                rw [if_pos e2]
                exact st _ e3
              · right
                rw [if_neg (show ¬ v = 0 by rw [e2]; decide)]
                exact ⟨_, rfl, .inr rfl, e3⟩
theorem colour_o {mc mr : Mem} (h : RLx mc mr) (x y : Int32) : Df (fX8_colour x y mc) (fX9_colour x y mr) := by
  have hh := h
  obtain ⟨⟨r, al, f, q, w⟩, _⟩ := h
  have hg := WS_1 w
  unfold fX8_colour fX9_colour bX8_colour_23 bX9_colour_17
  rw [wi_eq]
  rcases win (l := 1) (h := 4) (by omega) (by omega) x with z | ⟨k, k1, k2, rfl, k4⟩
  · rw [if_pos (show fX9_within x 1 4 = 0 from z), if_pos (show fX9_within x 1 4 = 0 from z)]
    exact Sm_Df (err1 hh)
  have z : ¬ fX9_within (o32 k) 1 4 = 0 := by rw [show fX9_within (o32 k) 1 4 = 1 from k4]; exact one0
  rw [if_neg z, if_neg z]
  rcases isb w y with ⟨a1, a2⟩ | ⟨a, a1, a2, a3, a4, a5⟩
  · rw [if_pos a1, a2, Option.bind_some, if_pos rfl]
    exact Sm_Df (err1 hh)
  rw [a4, a5, if_neg one0, Option.bind_some, if_neg one0, a2]
  obtain ⟨m1, l1, l2, l3, l4⟩ := look_c (WS_4 w) hg
  have fl : ∃ m2, fJ7_fill_53178_4 124 0 m1 = some m2 ∧ ∀ c j, c ≠ 124 → m2 c j = m1 c j := by
    unfold fJ7_fill_53178_4
    have key := lp_ix (body := lJ7_fill_53178_4_5 124 0 4) (fun i s => s.1 = o32 i ∧ ∀ c j, c ≠ 124 → s.2 c j = m1 c j) (fun e => ∀ c j, c ≠ 124 → e c j = m1 c j) 4 0 (0, m1) fu ⟨rfl, fun _ _ _ => rfl⟩ (fun i s _ hi hI => ?_) (fun s hI => ?_) (lt_fu (by omega))
    · exact key
    · obtain ⟨i1, i2⟩ := hI
      unfold lJ7_fill_53178_4_5
      have n4 : ¬ (4 : Int32) ≤ o32 i := by rw [show (4 : Int32) = o32 4 from rfl, o_le (by omega) (by omega)]; omega
      rw [i1, if_neg n4, if_pos (o_inb (show i < 4 by omega) (by omega)), o_s]
      exact ⟨_, rfl, rfl, fun c j hc => by dsimp only; rw [mput_c _ _ _ hc]; exact i2 c j hc⟩
    · obtain ⟨i1, i2⟩ := hI
      unfold lJ7_fill_53178_4_5
      rw [i1, if_pos (show (4 : Int32) ≤ o32 (0 + 4) by decide)]
      exact ⟨_, rfl, i2⟩
  obtain ⟨m2, f1, f2⟩ := fl
  obtain ⟨v, m3, p1, p2, p3⟩ := paint_n 18 0 (o32 k) 0 m2 (by omega) (by omega) (by omega)
  have p1 : nX3_paintFrom 18 0 (o32 k) 0 m2 = some (v, m3) := p1
  obtain ⟨u, m4, c1, c2, c3⟩ := coloured_n (k := k) (WS_3 w) (by omega) 18 0 mr (by omega) (by omega) (by omega) (fun _ _ _ => rfl)
  have c1 : nX9_coloured 18 0 (o32 k) mr = some (u, m4) := c1
  unfold fX3_canPaint
  rw [l1, Option.bind_some, f1, Option.bind_some, p1, Option.bind_some, if_pos p2, Option.bind_some, c1, Option.bind_some, if_pos (o_inb (show a < 16 by omega) (by omega)), if_pos (o_inb (show a < 16 by omega) (by omega))]
  have A : ∃ v' m', (if v = 0 then (fX8_no 2 m3).bind fun q6 => some (q6.1, q6.2) else some (m3 122 (o32 a).toNatClampNeg, m3)) = some (v', m') ∧ ∀ c j, c ≠ 136 → m' c j = m3 c j := by
    rw [show fX8_no 2 m3 = _ from no_c (i := 2) (by omega)]
    split
    · exact ⟨_, _, rfl, fun c j hc => by dsimp only; rw [mput_c _ _ _ hc]⟩
    · exact ⟨_, _, rfl, fun _ _ _ => rfl⟩
  have B : ∃ v' m', (if u = 0 then (fX9_finding (-1000002) m4).bind fun q5 => some (q5.1, q5.2) else some (m4 148 (o32 a).toNatClampNeg, m4)) = some (v', m') ∧ ∀ c j, c ≠ 141 → m' c j = m4 c j := by
    rw [fnd_m (i := 2) (by omega) (by decide)]
    split
    · exact ⟨_, _, rfl, fun c j hc => by dsimp only; rw [mput_c _ _ _ hc]⟩
    · exact ⟨_, _, rfl, fun _ _ _ => rfl⟩
  obtain ⟨v5, m5, a7, a8⟩ := A
  obtain ⟨v6, m6, b7, b8⟩ := B
  exact ⟨v5, v6, m5, m6, a7, b7, RL_any hh (fun c j hc => by rw [a8 c j (by omega), p3 c j (by omega) (by omega), f2 c j (by omega)]; exact l2 c j (by omega) (by omega)) (fun c j hc => by rw [b8 c j (by omega)]; exact c3 c j (by omega))⟩

/-! foam, in whole -/
theorem par4 : ∀ j, j < 4 → (o32 j - o32 j / 2 * 2 = 1 ↔ j % 2 = 1) := by decide +kernel
def CI (w h : Nat) (g : Int32) (m1 m : Mem) (n : Nat) : Prop := (∀ b, b < 16 → b < n → rgAt m b (R0 w h b) ∧ m 138 (12 + 50 * b) = 1 ∧ m 138 (12 + 50 * b + 1) = 0 ∧ m 138 (12 + 50 * b + 2) = g ∧ m 138 (12 + 50 * b + 3) = 0 ∧ m 138 (12 + 50 * b + 4) = o32 (b / w)) ∧ (∀ b, b < 16 → n ≤ b → ∀ f, f < 50 → m 138 (12 + 50 * b + f) = 0) ∧ (∀ c j, ¬ (c = 138 ∧ 12 ≤ j ∧ j < 812) → m c j = m1 c j)
theorem rgAt_same {m m' : Mem} {b : Nat} {l : List Nat} (h : rgAt m b l) (e : ∀ z, 12 + 50 * b ≤ z → z < 12 + 50 * b + 50 → m' 138 z = m 138 z) : rgAt m' b l := ⟨h.1, by rw [e _ (by omega) (by omega)]; exact h.2.1, h.2.2.1, fun i hi => by have := h.1; rw [e _ (by omega) (by omega)]; exact h.2.2.2 i hi⟩
theorem ci_step {w h j i : Nat} {g : Int32} {m1 m : Mem} (hw : 1 ≤ w) (hw4 : w ≤ 4) (hh4 : h ≤ 4) (hj : j < h) (hi : i < w) (hc : CI w h g m1 m (j * w + i)) : ∃ m', lX9_foam_105 (o32 w) (o32 h) g (o32 j) (o32 i, m) = some (.inl (o32 (i + 1), m')) ∧ CI w h g m1 m' (j * w + (i + 1)) := by
  obtain ⟨c1, c2, c3⟩ := hc
  have hjw : j * w ≤ 3 * w := Nat.mul_le_mul_right w (by omega)
  have hn : j * w + i < 16 := by omega
  obtain ⟨m', e, r, f0, f1, f2, f3, f4, fr⟩ := cell_s (m := m) (w := w) (h := h) (j := j) (i := i) (y := i + j % 2) (n := j * w + i) (g := g) (by omega) (by omega) (by omega) (by omega) (by omega) hn (c2 _ hn (Nat.le_refl _))
  have dv : (j * w + i) / w = j := by rw [Nat.add_comm, Nat.add_mul_div_right _ _ (by omega), Nat.div_eq_of_lt hi, Nat.zero_add]
  have md : (j * w + i) % w = i := by rw [Nat.add_comm, Nat.add_mul_mod_self_right, Nat.mod_eq_of_lt hi]
  refine ⟨m', ?_, fun b hb hbn => ?_, fun b hb hbn f hf => ?_, fun c z q => ?_⟩
  · unfold lX9_foam_105
    dsimp only
    have nl : ¬ o32 w ≤ o32 i := fun z => by
      have := (o_le (by omega) (by omega)).mp z
      omega
    rw [if_neg nl, o_mul, o_add, o_s]
    by_cases p : j % 2 = 1
    · rw [if_pos ((par4 j (by omega)).mpr p)]
      rw [p] at e
      exact e
    · rw [if_neg (fun z => p ((par4 j (by omega)).mp z))]
      rw [show j % 2 = 0 by omega] at e
      exact e
  · by_cases eb : b = j * w + i
    · subst eb
      refine ⟨?_, f0, f1, f2, f3, by rw [f4, dv]⟩
      unfold R0
      rw [dv, md]
      exact r
    · have q := c1 b hb (by omega)
      have s : ∀ z, 12 + 50 * b ≤ z → z < 12 + 50 * b + 50 → m' 138 z = m 138 z := fun z h1 h2 => fr _ _ (by omega)
      refine ⟨rgAt_same q.1 s, ?_⟩
      rw [s _ (by omega) (by omega), s _ (by omega) (by omega), s _ (by omega) (by omega), s _ (by omega) (by omega), s _ (by omega) (by omega)]
      exact q.2
  · rw [fr _ _ (by omega)]
    exact c2 b hb (by omega) f hf
  · rw [fr c z (fun q2 => q ⟨q2.1, by omega, by omega⟩)]
    exact c3 c z q
theorem row_s {w h j : Nat} {g : Int32} {m1 m : Mem} (hw : 1 ≤ w) (hw4 : w ≤ 4) (hh4 : h ≤ 4) (hj : j < h) (hc : CI w h g m1 m (j * w)) : ∃ m', lX9_foam_96 (o32 w) (o32 h) g (o32 j, m) = some (.inl (o32 (j + 1), m')) ∧ CI w h g m1 m' ((j + 1) * w) := by
  have key := lp_ix (body := lX9_foam_105 (o32 w) (o32 h) g (o32 j)) (fun i s => s.1 = o32 i ∧ CI w h g m1 s.2 (j * w + i)) (fun e => ∃ m', e = .inl (o32 (j + 1), m') ∧ CI w h g m1 m' ((j + 1) * w)) w 0 ((0 : Int32), m) fu ⟨rfl, hc⟩ (fun i s _ h2 hi => ?_) (fun s hi => ?_) (lt_fu (by omega))
  · obtain ⟨e, e1, m', e2, e3⟩ := key
    refine ⟨m', ?_, e3⟩
    unfold lX9_foam_96
    dsimp only
    have nl : ¬ o32 h ≤ o32 j := fun z => by
      have := (o_le (by omega) (by omega)).mp z
      omega
    rw [if_neg nl, e1, e2]
  · obtain ⟨s1, s2⟩ := s
    obtain ⟨h1, h3⟩ := hi
    dsimp only at h1 h3
    subst h1
    obtain ⟨m', q1, q2⟩ := ci_step hw hw4 hh4 hj (by omega) h3
    exact ⟨_, q1, rfl, q2⟩
  · obtain ⟨s1, s2⟩ := s
    obtain ⟨h1, h3⟩ := hi
    dsimp only at h1 h3
    subst h1
    refine ⟨_, ?_, s2, rfl, ?_⟩
    · unfold lX9_foam_105
      dsimp only
      rw [if_pos ((o_le (by omega) (by omega)).mpr (by omega)), o_s]
    · rw [show (j + 1) * w = j * w + (0 + w) by rw [Nat.succ_mul]; omega]
      exact h3
/-- what foam makes -/
def FoamOut (w h : Nat) (g : Int32) (m m' : Mem) : Prop := RS m' (R0 w h) (A0 w h) ∧ (∀ b, b < 16 → b < w * h → m' 138 (12 + 50 * b + 1) = 0 ∧ m' 138 (12 + 50 * b + 2) = g ∧ m' 138 (12 + 50 * b + 3) = 0 ∧ m' 138 (12 + 50 * b + 4) = o32 (b / w)) ∧ m' 138 0 = 0 ∧ (∀ j, 7 ≤ j → j ≤ 10 → m' 138 j = 0) ∧ (∀ c j, ¬ (c = 138 ∧ (j = 0 ∨ (7 ≤ j ∧ j ≤ 10) ∨ (12 ≤ j ∧ j < 812))) → m' c j = m c j)
theorem foam_s {m : Mem} {w h : Nat} {g : Int32} (hw : 1 ≤ w) (hw4 : w ≤ 4) (hh : 1 ≤ h) (hh4 : h ≤ 4) (hg : fX9_within g 0 99999 ≠ 0) : ∃ m', fX9_foam (o32 w) (o32 h) g m = some (o32 (w * h), m') ∧ FoamOut w h g m m' := by
  have n4 : ∀ x, 1 ≤ x → x ≤ 4 → fX9_within (o32 x) 1 4 ≠ 0 := fun x h1 h2 => by
    have : fX9_within (o32 x) (o32 1) (o32 4) = 1 := by rw [within_o (by omega) (by omega) (by omega), if_pos ⟨h1, h2⟩]
    show fX9_within (o32 x) (o32 1) (o32 4) ≠ 0
    rw [this]
    decide
  have hwh : w * h ≤ 16 := Nat.mul_le_mul hw4 hh4
  have rows : ∀ m1 : Mem, (∀ b, b < 16 → ∀ f, f < 50 → m1 138 (12 + 50 * b + f) = 0) → ∃ m', lp (lX9_foam_96 (o32 w) (o32 h) g) fu ((0 : Int32), m1) = some (o32 (w * h), m') ∧ CI w h g m1 m' (h * w) := fun m1 hz => by
    have key := lp_ix (body := lX9_foam_96 (o32 w) (o32 h) g) (fun j s => s.1 = o32 j ∧ CI w h g m1 s.2 (j * w)) (fun e => ∃ m', e = (o32 (w * h), m') ∧ CI w h g m1 m' (h * w)) h 0 ((0 : Int32), m1) fu ⟨rfl, fun b hb hbn => absurd hbn (by omega), fun b hb _ => hz b hb, fun c j _ => rfl⟩ (fun j s _ h2 hi => ?_) (fun s hi => ?_) (lt_fu (by omega))
    · obtain ⟨e, e1, m', e2, e3⟩ := key
      exact ⟨m', by rw [e1, e2], e3⟩
    · obtain ⟨s1, s2⟩ := s
      obtain ⟨h1, h3⟩ := hi
      dsimp only at h1 h3
      subst h1
      obtain ⟨m', q1, q2⟩ := row_s hw hw4 hh4 (by omega) h3
      exact ⟨_, q1, rfl, q2⟩
    · obtain ⟨s1, s2⟩ := s
      obtain ⟨h1, h3⟩ := hi
      dsimp only at h1 h3
      subst h1
      rw [Nat.zero_add] at h3 ⊢
      refine ⟨_, ?_, s2, rfl, h3⟩
      unfold lX9_foam_96
      dsimp only
      rw [if_pos ((o_le (by omega) (by omega)).mpr (by omega)), o_mul]
  unfold fX9_foam
  rw [if_neg (n4 w hw hw4), if_neg (n4 h hh hh4), if_neg hg]
  have key := lp_ix (body := lX9_foam_39 (o32 w) (o32 h) g) (fun k s => s.1 = o32 (12 + k) ∧ ∀ c j, s.2 c j = if c = 138 ∧ 12 ≤ j ∧ j < 12 + k then 0 else m c j) (fun e => ∃ m', e = (o32 (w * h), m') ∧ FoamOut w h g m m') 800 0 ((12 : Int32), m) fu ⟨rfl, fun c j => by show m c j = _; rw [if_neg (by omega)]⟩ (fun k s _ h2 hi => ?_) (fun s hi => ?_) (lt_fu (by omega))
  · obtain ⟨e, e1, m', e2, e3⟩ := key
    exact ⟨m', by rw [e1, e2], e3⟩
  · obtain ⟨s1, s2⟩ := s
    obtain ⟨h1, h3⟩ := hi
    dsimp only at h1 h3
    subst h1
    refine ⟨(o32 (12 + k) + 1, mput s2 138 (12 + k) 0), ?_, by show o32 (12 + k) + 1 = _; rw [o_s]; rfl, fun c j => ?_⟩
    · unfold lX9_foam_39
      dsimp only
      have nl : ¬ (812 : Int32) ≤ o32 (12 + k) := fun z => by
        have := (o_le (a := 812) (by omega) (by omega)).mp z
        omega
      rw [if_neg nl, if_pos (o_inb (by omega) (by omega)), o_tn (by omega)]
    · dsimp only
      rw [mput_get, h3]
      by_cases q : c = 138 ∧ j = 12 + k
      · rw [if_pos q, if_pos ⟨q.1, by omega, by omega⟩]
      · rw [if_neg q]
        by_cases q2 : c = 138 ∧ 12 ≤ j ∧ j < 12 + k
        · rw [if_pos q2, if_pos ⟨q2.1, q2.2.1, by omega⟩]
        · rw [if_neg q2, if_neg (by omega)]
  · obtain ⟨s1, s2⟩ := s
    obtain ⟨h1, h3⟩ := hi
    dsimp only at h1 h3
    subst h1
    have k72 := lp_ix (body := lX9_foam_72 (o32 w) (o32 h) g) (fun k s => s.1 = o32 (7 + k) ∧ ∀ c j, s.2 c j = if c = 138 ∧ (j = 0 ∨ (7 ≤ j ∧ j < 7 + k) ∨ (12 ≤ j ∧ j < 812)) then 0 else m c j) (fun e => ∃ m', e = (o32 (w * h), m') ∧ FoamOut w h g m m') 4 0 ((7 : Int32), mput s2 138 0 0) fu ⟨rfl, fun c j => by
        show mput s2 138 0 0 c j = _
        rw [mput_get, h3]
        by_cases q : c = 138 ∧ j = 0
        · rw [if_pos q, if_pos ⟨q.1, .inl q.2⟩]
        · rw [if_neg q]
          by_cases q2 : c = 138 ∧ 12 ≤ j ∧ j < 812
          · rw [if_pos (by omega), if_pos ⟨q2.1, by omega⟩]
          · rw [if_neg (by omega), if_neg (by omega)]⟩ (fun k s _ h2 hi => ?_) (fun s hi => ?_) (lt_fu (by omega))
    · obtain ⟨e, e1, e2⟩ := k72
      refine ⟨e, ?_, e2⟩
      unfold lX9_foam_39
      dsimp only
      rw [if_pos (show (812 : Int32) ≤ o32 (12 + (0 + 800)) by decide), e1]
      rfl
    · obtain ⟨s1, s3⟩ := s
      obtain ⟨h1, h4⟩ := hi
      dsimp only at h1 h4
      subst h1
      refine ⟨(o32 (7 + k) + 1, mput s3 138 (7 + k) 0), ?_, by show o32 (7 + k) + 1 = _; rw [o_s]; rfl, fun c j => ?_⟩
      · unfold lX9_foam_72
        dsimp only
        have nl : ¬ (10 : Int32) < o32 (7 + k) := fun z => by
          have := (o_lt (a := 10) (by omega) (by omega)).mp z
          omega
        rw [if_neg nl, if_pos (o_inb (by omega) (by omega)), o_tn (by omega)]
      · dsimp only
        rw [mput_get, h4]
        by_cases q : c = 138 ∧ j = 7 + k
        · rw [if_pos q, if_pos ⟨q.1, by omega⟩]
        · rw [if_neg q]
          by_cases q2 : c = 138 ∧ (j = 0 ∨ (7 ≤ j ∧ j < 7 + k) ∨ (12 ≤ j ∧ j < 812))
          · rw [if_pos q2, if_pos ⟨q2.1, by omega⟩]
          · rw [if_neg q2, if_neg (by omega)]
    · obtain ⟨s1, s3⟩ := s
      obtain ⟨h1, h4⟩ := hi
      dsimp only at h1 h4
      subst h1
      obtain ⟨m', r1, c1, c2, c3⟩ := rows s3 (fun b hb f hf => by rw [h4, if_pos ⟨rfl, by omega⟩])
      refine ⟨_, by
        unfold lX9_foam_72
        dsimp only
        rw [if_pos (show (10 : Int32) < o32 (7 + (0 + 4)) by decide), r1]
        rfl, m', rfl, fun b hb => ?_, fun b hb hbn => (c1 b hb (by rw [Nat.mul_comm]; exact hbn)).2.2, ?_, fun j j1 j2 => ?_, fun c j q => ?_⟩
      · unfold A0
        by_cases hbn : b < w * h
        · have z := c1 b hb (by rw [Nat.mul_comm]; exact hbn)
          rw [decide_eq_true hbn]
          exact ⟨z.2.1, fun _ => z.1⟩
        · rw [decide_eq_false hbn]
          exact ⟨c2 b hb (by rw [Nat.mul_comm]; omega) 0 (by omega), fun z => by cases z⟩
      · rw [c3 _ _ (by omega), h4, if_pos ⟨rfl, .inl rfl⟩]
      · rw [c3 _ _ (by omega), h4, if_pos ⟨rfl, by omega⟩]
      · rw [c3 _ _ (by omega), h4, if_neg (by omega)]

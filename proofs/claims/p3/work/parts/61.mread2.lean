/-! what the model answers of a BUBBLE -/
theorem markOf_op {m : Mem} {a : Nat} (ha : a < 16) (h : TX m) : ∃ v m', fX9_markOf (o32 a) m = some (v, m') ∧ F146 m m' := by
  have o : ∀ f, f < 50 → fX9_of (o32 a) (o32 f) m = some (m 138 (12 + 50 * a + f)) := fun f hf => of_o ha hf
  have o1 : fX9_of (o32 a) 1 m = some (m 138 (12 + 50 * a + 1)) := o 1 (by omega)
  have o2 : fX9_of (o32 a) 2 m = some (m 138 (12 + 50 * a + 2)) := o 2 (by omega)
  have o3 : fX9_of (o32 a) 3 m = some (m 138 (12 + 50 * a + 3)) := o 3 (by omega)
  have o4 : fX9_of (o32 a) 4 m = some (m 138 (12 + 50 * a + 4)) := o 4 (by omega)
  unfold fX9_markOf
  rw [sd_o ha, Option.bind_some, o2, Option.bind_some, o3, Option.bind_some, o4, Option.bind_some, o1, Option.bind_some]
  obtain ⟨v, m', e, f⟩ := given_op (i := 2) (by omega) h (m 138 (12 + 50 * a + 5)) (m 138 (12 + 50 * a + 2)) (m 138 (12 + 50 * a + 3)) (m 138 (12 + 50 * a + 4)) (m 138 (12 + 50 * a + 1))
  have e' : fX9_given 2 (m 138 (12 + 50 * a + 5)) (m 138 (12 + 50 * a + 2)) (m 138 (12 + 50 * a + 3)) (m 138 (12 + 50 * a + 4)) (m 138 (12 + 50 * a + 1)) m = some (v, m') := e
  rw [e', Option.bind_some]
  exact ⟨v, m', rfl, f⟩
theorem bubbleIs_op {m : Mem} (x y : Int32) (h : KI m) : ∃ v m', fX9_bubbleIs x y m = some (v, m') ∧ KI m' := by
  have no : ∃ v m', bX9_bubbleIs_18 m = some (v, m') ∧ KI m' := by
    unfold bX9_bubbleIs_18
    exact KF_1 h
  have h0 := h
  obtain ⟨⟨r, al, g, f, s⟩, ht, _⟩ := h
  unfold fX9_bubbleIs
  rcases is_any s x with e | ⟨a, ha, ea, ala, e⟩
  · rw [e, Option.bind_some, if_pos rfl]
    exact no
  · subst ea
    rw [e, Option.bind_some, if_neg (by decide)]
    by_cases q : fX9_within y 0 8 = 0
    · rw [if_pos q]
      exact no
    · rw [if_neg q]
      obtain ⟨n, _, n8, ey⟩ := within_lh (l := 0) (h := 8) (by omega) (by omega) q
      subst ey
      split
      · obtain ⟨w, e2⟩ := glasses_op ha ((s a ha).2 ala)
        rw [e2, Option.bind_some]
        exact ⟨_, _, rfl, h0⟩
      split
      · obtain ⟨w, e2⟩ := dryOf_op (m := m) ha
        rw [e2, Option.bind_some]
        exact ⟨_, _, rfl, h0⟩
      split
      · obtain ⟨w, e2⟩ := letsOf_op (m := m) ha
        rw [e2, Option.bind_some]
        exact ⟨_, _, rfl, h0⟩
      split
      · obtain ⟨v, m', e2, f2⟩ := markOf_op ha ht
        obtain ⟨M, F⟩ := MI_146 h0.1 f2
        rw [e2, Option.bind_some]
        exact ⟨_, _, rfl, KI_Fw h0 M F⟩
      · have e1 : (1 : Int32) + o32 n = o32 (1 + n) := o_add 1 n
        rw [e1, of_o ha (by omega), Option.bind_some]
        exact ⟨_, _, rfl, h0⟩
theorem sides_op {m : Mem} (x : Int32) (h : KI m) : ∃ v m', fX9_sides x m = some (v, m') ∧ KI m' := by
  have h0 := h
  obtain ⟨⟨r, al, g, f, s⟩, _⟩ := h
  unfold fX9_sides
  split
  · exact KF_1 h0
  · have key := lp_ix (body := lX9_sides_21 x m) (fun i s => s.2 = o32 i) (fun e => e.2 = m) 16 0 ((0 : Int32), (0 : Int32)) fu rfl (fun i t _ hi hI => ?_) (fun t hI => ?_) (lt_fu (by omega))
    · obtain ⟨⟨v, m'⟩, e1, e2⟩ := key
      dsimp only at e2
      exact ⟨v, m', e1, by rw [e2]; exact h0⟩
    · obtain ⟨t1, t2⟩ := t
      dsimp only at hI
      subst hI
      have i16 : i < 16 := by omega
      have nl : ¬ (16 : Int32) ≤ o32 i := fun z => by
        have := (o_le (a := 16) (by omega) (by omega)).mp z
        omega
      unfold lX9_sides_21
      dsimp only
      rw [if_neg nl, is_s i16 s, Option.bind_some]
      by_cases ai : al i = true
      · rw [ai, if_neg (by decide), sd_o i16, Option.bind_some]
        split
        · exact ⟨_, rfl, by show o32 i + 1 = _; rw [o_s]⟩
        · exact ⟨_, rfl, by show o32 i + 1 = _; rw [o_s]⟩
      · rw [Bool.eq_false_iff.mpr ai, if_pos (show i01 false = 0 from rfl)]
        exact ⟨_, rfl, by show o32 i + 1 = _; rw [o_s]⟩
    · obtain ⟨t1, t2⟩ := t
      dsimp only at hI
      subst hI
      refine ⟨(t1, m), ?_, rfl⟩
      unfold lX9_sides_21
      dsimp only
      rw [if_pos (show (16 : Int32) ≤ o32 (0 + 16) by decide)]

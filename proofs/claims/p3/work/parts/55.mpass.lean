/-! the model's tick: gas that passes, walls that burst -/
theorem MI_146 {m m' : Mem} (h : MI m) (f : F146 m m') : MI m' ∧ Fw m m' := by
  obtain ⟨r, al, g, fc, s⟩ := h
  exact ⟨⟨r, al, g, fc, RS_same s (fun j _ _ => f 138 j (by omega) (by omega))⟩, fun c j _ _ _ a4 a5 _ => f c j a4 a5, fun j _ => f 138 j (by omega) (by omega)⟩
theorem TX_Fw {m m' : Mem} (h : TX m) (f : Fw m m') : TX m' := TX_same h (fun j hj => f.2 j (by omega))
theorem letsOf_op {m : Mem} {a : Nat} (ha : a < 16) : ∃ w, fX9_letsOf (o32 a) m = some w := by
  have o1 : fX9_of (o32 a) 1 m = some (m 138 (12 + 50 * a + 1)) := of_o (f := 1) ha (by omega)
  unfold fX9_letsOf
  rw [o1, Option.bind_some]
  exact ite_s (fun _ => some_s _) (fun _ => ite_s (fun _ => some_s _) (fun _ => ite_s (fun _ => some_s _) (fun _ => ite_s (fun _ => some_s _) (fun _ => some_s _))))
theorem dryOf_op {m : Mem} {a : Nat} (ha : a < 16) : ∃ w, fX9_dryOf (o32 a) m = some w := by
  have o1 : fX9_of (o32 a) 1 m = some (m 138 (12 + 50 * a + 1)) := of_o (f := 1) ha (by omega)
  unfold fX9_dryOf
  rw [o1, Option.bind_some]
  exact ite_s (fun _ => some_s _) (fun _ => ite_s (fun _ => some_s _) (fun _ => ite_s (fun _ => some_s _) (fun _ => some_s _)))
theorem passesBy_op {m : Mem} {a b : Nat} (ha : a < 16) (hb : b < 16) (h : TX m) : ∃ v m', fX9_passesBy (o32 a) (o32 b) m = some (v, m') ∧ F146 m m' := by
  have fin : ∀ y m1, F146 m m1 → ∃ v m', bX9_passesBy_57 (o32 a) (o32 b) y m1 = some (v, m') ∧ F146 m m' := fun y m1 f1 => by
    obtain ⟨w1, e1⟩ := letsOf_op (m := m1) ha
    obtain ⟨w2, e2⟩ := letsOf_op (m := m1) hb
    unfold bX9_passesBy_57
    rw [e1, Option.bind_some, e2, Option.bind_some]
    exact ⟨_, _, rfl, f1⟩
  have o2 : ∀ {x : Nat}, x < 16 → fX9_of (o32 x) 2 m = some (m 138 (12 + 50 * x + 2)) := fun hx => of_o (f := 2) hx (by omega)
  have q : fX9_hasText 0 m = some 0 ∨ fX9_hasText 0 m = some 1 := hasText_op (i := 0) (by omega)
  unfold fX9_passesBy
  rcases q with q | q
  · rw [q, Option.bind_some, if_pos rfl, sd_o hb, Option.bind_some, sd_o ha, Option.bind_some]
    exact fin _ _ (fun _ _ _ _ => rfl)
  · rw [q, Option.bind_some, if_neg (by decide), sd_o ha, Option.bind_some, sd_o hb, Option.bind_some, o2 ha, Option.bind_some, o2 hb, Option.bind_some]
    obtain ⟨v, m', e, f⟩ := given_op (i := 0) (by omega) h (m 138 (12 + 50 * a + 5)) (m 138 (12 + 50 * b + 5)) (m 138 (12 + 50 * a + 2)) (m 138 (12 + 50 * b + 2)) (m 138 0)
    have e' : fX9_given 0 (m 138 (12 + 50 * a + 5)) (m 138 (12 + 50 * b + 5)) (m 138 (12 + 50 * a + 2)) (m 138 (12 + 50 * b + 2)) (m 138 0) m = some (v, m') := e
    rw [e', Option.bind_some]
    exact fin _ _ f
theorem isDry_op {m : Mem} {a b : Nat} (ha : a < 16) (hb : b < 16) (h : TX m) : ∃ v m', fX9_isDry (o32 a) (o32 b) m = some (v, m') ∧ F146 m m' := by
  have o3 : ∀ {x : Nat}, x < 16 → fX9_of (o32 x) 3 m = some (m 138 (12 + 50 * x + 3)) := fun hx => of_o (f := 3) hx (by omega)
  have q : fX9_hasText 1 m = some 0 ∨ fX9_hasText 1 m = some 1 := hasText_op (i := 1) (by omega)
  unfold fX9_isDry
  rw [o3 ha, Option.bind_some, o3 hb, Option.bind_some]
  rcases q with q | q
  · obtain ⟨w1, e1⟩ := dryOf_op (m := m) ha
    obtain ⟨w2, e2⟩ := dryOf_op (m := m) hb
    rw [q, Option.bind_some, if_pos rfl, e1, Option.bind_some, e2, Option.bind_some]
    split
    · exact ⟨_, _, rfl, fun _ _ _ _ => rfl⟩
    · split
      · exact ⟨_, _, rfl, fun _ _ _ _ => rfl⟩
      · exact ⟨_, _, rfl, fun _ _ _ _ => rfl⟩
  · rw [q, Option.bind_some, if_neg (by decide), Option.bind_some, Option.bind_some, sd_o ha, Option.bind_some, sd_o hb, Option.bind_some]
    obtain ⟨v, m', e, f⟩ := given_op (i := 1) (by omega) h (fJ9_min_7cf53 (m 138 (12 + 50 * a + 3)) (m 138 (12 + 50 * b + 3))) (fJ9_max_7cf53 (m 138 (12 + 50 * a + 3)) (m 138 (12 + 50 * b + 3))) (m 138 (12 + 50 * a + 5)) (m 138 (12 + 50 * b + 5)) (m 138 0)
    have e' : fX9_given 1 (fJ9_min_7cf53 (m 138 (12 + 50 * a + 3)) (m 138 (12 + 50 * b + 3))) (fJ9_max_7cf53 (m 138 (12 + 50 * a + 3)) (m 138 (12 + 50 * b + 3))) (m 138 (12 + 50 * a + 5)) (m 138 (12 + 50 * b + 5)) (m 138 0) m = some (v, m') := e
    rw [e', Option.bind_some]
    split
    · exact ⟨_, _, rfl, f⟩
    · exact ⟨_, _, rfl, f⟩
theorem gives_op {m : Mem} {a b : Nat} (ha : a < 16) (hb : b < 16) (x : Int32) (h : MI m) : ∃ m', fX9_gives (o32 a) (o32 b) x m = some m' ∧ MI m' ∧ Fw m m' := by
  have o2 : ∀ {x : Nat} {m : Mem}, x < 16 → fX9_of (o32 x) 2 m = some (m 138 (12 + 50 * x + 2)) := fun hx => of_o (f := 2) hx (by omega)
  have t2 : ∀ {x : Nat} {v : Int32} {m : Mem}, x < 16 → fX9_tells (o32 x) 2 v m = some (mput m 138 (12 + 50 * x + 2) v) := fun hx => tl_o (f := 2) hx (by omega)
  unfold fX9_gives
  rw [o2 ha, Option.bind_some, o2 hb, Option.bind_some, Option.bind_some, t2 ha, Option.bind_some, o2 hb, Option.bind_some, t2 hb, Option.bind_some]
  exact ⟨_, rfl, MI_fld (by omega) (by omega) (MI_fld (by omega) (by omega) h), Fw_trans (Fw_put (by omega)) (Fw_put (by omega))⟩
theorem passesAll_op {m : Mem} (h : MI m) (ht : TX m) : ∃ m', fX9_passesAll m = some m' ∧ MI m' ∧ Fw m m' := by
  have inner : ∀ i, i < 16 → ∀ m0, MI m0 → Fw m m0 → ∃ m', lp (lX9_passesAll_12 (o32 i)) fu (o32 i + 1, m0) = some (.inl (o32 (i + 1), m')) ∧ MI m' ∧ Fw m m' := fun i hi m0 hM0 hF0 => by
    have key := lp_ix (body := lX9_passesAll_12 (o32 i)) (fun k s => s.1 = o32 k ∧ MI s.2 ∧ Fw m s.2) (fun e => ∃ m', e = .inl (o32 (i + 1), m') ∧ MI m' ∧ Fw m m') (15 - i) (i + 1) (o32 i + 1, m0) fu ⟨by show o32 i + 1 = _; rw [o_s], hM0, hF0⟩ (fun j s _ hj hI => ?_) (fun s hI => ?_) (lt_fu (by omega))
    · obtain ⟨e, e1, m', e2, e3⟩ := key
      exact ⟨m', by rw [e1, e2], e3⟩
    · obtain ⟨s1, s2⟩ := s
      obtain ⟨e1, hM, hF⟩ := hI
      dsimp only at e1 hM hF
      subst e1
      have hM1 := hM
      obtain ⟨r, al, g, f, s⟩ := hM
      have nl : ¬ (16 : Int32) ≤ o32 j := fun z => by
        have := (o_le (a := 16) (by omega) (by omega)).mp z
        omega
      have j16 : j < 16 := by omega
      have go : ∀ m2, MI m2 → Fw s2 m2 → ∃ s', (some (.inl ((o32 j + 1), m2)) : Option ((Int32 × Mem) ⊕ ((Int32 × Mem) ⊕ Mem))) = some (.inl s') ∧ s'.1 = o32 (j + 1) ∧ MI s'.2 ∧ Fw m s'.2 := fun m2 h1 h2 => ⟨_, rfl, by show o32 j + 1 = _; rw [o_s], h1, Fw_trans hF h2⟩
      unfold lX9_passesAll_12
      dsimp only
      rw [if_neg nl, is_s hi s, Option.bind_some]
      by_cases ai : al i = true
      · rw [ai, if_neg (by decide), is_s j16 s, Option.bind_some]
        by_cases aj : al j = true
        · rw [aj, if_neg (by decide)]
          rcases wall_any s hi j16 ai with ⟨hw, e2⟩ | ⟨hw, e2⟩
          · rw [e2, Option.bind_some, if_neg (by decide)]
            obtain ⟨v, m2, e3, f3⟩ := passesBy_op hi j16 (TX_Fw ht hF)
            obtain ⟨M2, F2⟩ := MI_146 hM1 f3
            rw [e3, Option.bind_some]
            dsimp only
            have g2 : ∀ {a b : Nat} (x : Int32), a < 16 → b < 16 → ∃ s', bX9_passesAll_69 (o32 i) (o32 j) x (o32 a) (o32 b) m2 = some (.inl s') ∧ s'.1 = o32 (j + 1) ∧ MI s'.2 ∧ Fw m s'.2 := fun {a b} x ha hb => by
              obtain ⟨m3, e4, M3, F3⟩ := gives_op ha hb (fJ9_abs_0f7a4 x) M2
              unfold bX9_passesAll_69
              rw [e4, Option.bind_some]
              exact go m3 M3 (Fw_trans F2 F3)
            unfold bX9_passesAll_60
            split
            · exact g2 v hi j16
            · exact g2 v j16 hi
          · rw [e2, Option.bind_some, if_pos rfl]
            exact go s2 hM1 (Fw_refl _)
        · rw [Bool.eq_false_iff.mpr aj, if_pos (show i01 false = 0 from rfl)]
          exact go s2 hM1 (Fw_refl _)
      · rw [Bool.eq_false_iff.mpr ai, if_pos (show i01 false = 0 from rfl)]
        exact go s2 hM1 (Fw_refl _)
    · obtain ⟨s1, s2⟩ := s
      obtain ⟨e1, hM, hF⟩ := hI
      dsimp only at e1 hM hF
      subst e1
      refine ⟨.inl (o32 i + 1, s2), ?_, s2, by rw [o_s], hM, hF⟩
      unfold lX9_passesAll_12
      dsimp only
      rw [if_pos (show (16 : Int32) ≤ o32 (i + 1 + (15 - i)) by rw [show i + 1 + (15 - i) = 16 by omega]; decide)]
  refine lp_ix (body := lX9_passesAll_2) (fun i s => s.1 = o32 i ∧ MI s.2 ∧ Fw m s.2) (fun e => MI e ∧ Fw m e) 16 0 ((0 : Int32), m) fu ⟨rfl, h, Fw_refl m⟩ (fun i s _ h2 hI => ?_) (fun s hI => ?_) (lt_fu (by omega))
  · obtain ⟨s1, s2⟩ := s
    obtain ⟨e1, hM, hF⟩ := hI
    dsimp only at e1 hM hF
    subst e1
    have nl : ¬ (16 : Int32) ≤ o32 i := fun z => by
      have := (o_le (a := 16) (by omega) (by omega)).mp z
      omega
    obtain ⟨m', e, M1, F1⟩ := inner i (by omega) s2 hM hF
    refine ⟨(o32 (i + 1), m'), ?_, rfl, M1, F1⟩
    unfold lX9_passesAll_2
    dsimp only
    rw [if_neg nl, e]
  · obtain ⟨s1, s2⟩ := s
    obtain ⟨e1, hM, hF⟩ := hI
    dsimp only at e1 hM hF
    subst e1
    refine ⟨s2, ?_, hM, hF⟩
    unfold lX9_passesAll_2
    dsimp only
    rw [if_pos (show (16 : Int32) ≤ o32 (0 + 16) by decide)]

/-! the model's tick in whole -/
def OD (m : Mem) : Prop := ¬ (m 138 6 - m 138 6 / 10 * 10 = 0)
theorem drawn_op {m : Mem} {x : Int32} (hx : ¬ x = 0) : ∃ v w, fX9_drawn x m = some (v, mput m 138 3 w) := by
  unfold fX9_drawn
  rw [if_pos hx]
  exact ⟨_, _, rfl⟩
theorem burstsAll_op {m : Mem} (h : MI m) (ht : TX m) (ho : OD m) : ∃ m', fX9_burstsAll m = some m' ∧ MI m' ∧ Fw m m' := by
  have nl : ∀ {i : Nat}, i < 16 → ¬ (16 : Int32) ≤ o32 i := fun hi z => by
    have := (o_le (a := 16) (by omega) (by omega)).mp z
    omega
  have inner : ∀ i, i < 16 → ∀ m0, MI m0 → Fw m m0 → ∃ m', lp (lX9_burstsAll_20 (m 138 6) (o32 i)) fu (o32 i + 1, m0) = some (.inl (o32 (i + 1), m')) ∧ MI m' ∧ Fw m m' := fun i hi m0 hM0 hF0 => by
    have key := lp_ix (body := lX9_burstsAll_20 (m 138 6) (o32 i)) (fun k s => s.1 = o32 k ∧ MI s.2 ∧ Fw m s.2) (fun e => ∃ m', e = .inl (o32 (i + 1), m') ∧ MI m' ∧ Fw m m') (15 - i) (i + 1) (o32 i + 1, m0) fu ⟨by show o32 i + 1 = _; rw [o_s], hM0, hF0⟩ (fun j s hij hj hI => ?_) (fun s hI => ?_) (lt_fu (by omega))
    · obtain ⟨e, e1, m', e2, e3⟩ := key
      exact ⟨m', by rw [e1, e2], e3⟩
    · obtain ⟨s1, s2⟩ := s
      obtain ⟨e1, hM, hF⟩ := hI
      dsimp only at e1 hM hF
      subst e1
      have hM1 := hM
      obtain ⟨r, al, g, f, s⟩ := hM
      have j16 : j < 16 := by omega
      have go : ∀ m2, MI m2 → Fw s2 m2 → ∃ s', (some (.inl ((o32 j + 1), m2)) : Option ((Int32 × Mem) ⊕ ((Int32 × Mem) ⊕ Mem))) = some (.inl s') ∧ s'.1 = o32 (j + 1) ∧ MI s'.2 ∧ Fw m s'.2 := fun m2 h1 h2 => ⟨_, rfl, by show o32 j + 1 = _; rw [o_s], h1, Fw_trans hF h2⟩
      unfold lX9_burstsAll_20
      dsimp only
      rw [if_neg (nl j16), is_s hi s, Option.bind_some]
      by_cases ai : al i = true
      · rw [ai, if_neg (by decide), is_s j16 s, Option.bind_some]
        by_cases aj : al j = true
        · rw [aj, if_neg (by decide)]
          rcases wall_any s hi j16 ai with ⟨hw, e2⟩ | ⟨hw, e2⟩
          · rw [e2, Option.bind_some, if_neg (by decide)]
            obtain ⟨v, m2, e3, f3⟩ := isDry_op hi j16 (TX_Fw ht hF)
            obtain ⟨M2, F2⟩ := MI_146 hM1 f3
            rw [e3, Option.bind_some]
            dsimp only
            by_cases hv : v = 0
            · rw [if_pos hv]
              exact go m2 M2 F2
            · rw [if_neg hv]
              obtain ⟨d, w, e4⟩ := drawn_op (m := m2) ho
              rw [e4, Option.bind_some]
              dsimp only
              have s3 : RS (mput m2 138 3 w) r al := RS_same s (fun j _ _ => by rw [mput_get, if_neg (by omega)]; exact f3 138 j (by omega) (by omega))
              have F3 : Fw s2 (mput m2 138 3 w) := Fw_trans F2 (Fw_put (by omega))
              have M3 : MI (mput m2 138 3 w) := ⟨r, al, g, f, s3⟩
              split
              · exact go _ M3 F3
              · rw [canBurst_s hi j16 s3 g ai aj hw, Option.bind_some]
                by_cases hm : mayBur r i j = true
                · rw [hm, if_neg (by decide)]
                  obtain ⟨m4, e5, g5, f5, s5, z5⟩ := burs_op hi j16 (by omega) s3 g f ai aj hw hm
                  rw [e5, Option.bind_some]
                  exact go m4 ⟨_, _, g5, f5, s5⟩ (Fw_trans F3 (Fw_Fz z5))
                · rw [Bool.eq_false_iff.mpr hm, if_pos (show i01 false = 0 from rfl)]
                  exact go _ M3 F3
          · rw [e2, Option.bind_some, if_pos rfl]
            exact go s2 hM1 (Fw_refl _)
        · rw [Bool.eq_false_iff.mpr aj, if_pos (show i01 false = 0 from rfl)]
          exact go s2 hM1 (Fw_refl _)
      · rw [Bool.eq_false_iff.mpr ai, if_pos (show i01 false = 0 from rfl)]
        exact go s2 hM1 (Fw_refl _)
    · obtain ⟨s1, s2⟩ := s
      obtain ⟨e1, hM, hF⟩ := hI
      dsimp only at e1 hM hF
      subst e1
      refine ⟨.inl (o32 i + 1, s2), ?_, s2, by rw [o_s], hM, hF⟩
      unfold lX9_burstsAll_20
      dsimp only
      rw [if_pos (show (16 : Int32) ≤ o32 (i + 1 + (15 - i)) by rw [show i + 1 + (15 - i) = 16 by omega]; decide)]
  refine lp_ix (body := lX9_burstsAll_10 (m 138 6)) (fun i s => s.1 = o32 i ∧ MI s.2 ∧ Fw m s.2) (fun e => MI e ∧ Fw m e) 16 0 ((0 : Int32), m) fu ⟨rfl, h, Fw_refl m⟩ (fun i s _ h2 hI => ?_) (fun s hI => ?_) (lt_fu (by omega))
  · obtain ⟨s1, s2⟩ := s
    obtain ⟨e1, hM, hF⟩ := hI
    dsimp only at e1 hM hF
    subst e1
    obtain ⟨m', e, M1, F1⟩ := inner i (by omega) s2 hM hF
    refine ⟨(o32 (i + 1), m'), ?_, rfl, M1, F1⟩
    unfold lX9_burstsAll_10
    dsimp only
    rw [if_neg (nl (by omega)), e]
  · obtain ⟨s1, s2⟩ := s
    obtain ⟨e1, hM, hF⟩ := hI
    dsimp only at e1 hM hF
    subst e1
    refine ⟨s2, ?_, hM, hF⟩
    unfold lX9_burstsAll_10
    dsimp only
    rw [if_pos (show (16 : Int32) ≤ o32 (0 + 16) by decide)]
theorem OD_Fw {m m' : Mem} (h : OD m) (f : Fw m m') : OD m' := by
  unfold OD
  rw [f.2 6 (by omega)]
  exact h
theorem ticks_op {m : Mem} (h : MI m) (ht : TX m) (ho : OD m) : ∃ m', fX9_ticks m = some m' ∧ MI m' ∧ Fw m m' := by
  obtain ⟨m1, e1, M1, F1⟩ := passesAll_op h ht
  obtain ⟨m2, e2, M2, F2⟩ := runs_op M1
  have F02 := Fw_trans F1 F2
  obtain ⟨m3, e3, M3, F3⟩ := burstsAll_op M2 (TX_Fw ht F02) (OD_Fw ho F02)
  obtain ⟨m4, e4, M4, F4⟩ := tickEnd_op M3
  refine ⟨m4, ?_, M4, Fw_trans F02 (Fw_trans F3 F4)⟩
  unfold fX9_ticks
  rw [e1, Option.bind_some, e2, Option.bind_some, e3, Option.bind_some, e4]
theorem within60 {x : Int32} (h : fX9_within x 1 60 ≠ 0) : ∃ n, 1 ≤ n ∧ n ≤ 60 ∧ x = o32 n := by
  unfold fX9_within at h
  by_cases h1 : x < 1
  · rw [if_pos h1] at h; exact absurd rfl h
  · rw [if_neg h1] at h
    by_cases h2 : (60 : Int32) < x
    · rw [if_pos h2] at h; exact absurd rfl h
    · rw [Int32.lt_iff_toInt_lt] at h1 h2
      have e0 : (1 : Int32).toInt = 1 := rfl
      have e15 : (60 : Int32).toInt = 60 := rfl
      rw [e0] at h1
      rw [e15] at h2
      refine ⟨x.toInt.toNat, by omega, by omega, Int32.toInt_inj.mp ?_⟩
      rw [o_ti (by omega)]
      omega
theorem tick_op {m : Mem} (x : Int32) (h : MI m) (ht : TX m) (ho : OD m) : ∃ v m', fX9_tick x m = some (v, m') ∧ MI m' ∧ Fw m m' := by
  unfold fX9_tick
  by_cases hx : fX9_within x 1 60 = 0
  · rw [if_pos hx, fnd1]
    obtain ⟨a, b⟩ := MI_141 (k := 1) (v := m 141 1 + 1) h
    exact ⟨_, _, rfl, a, Fw_Fz b⟩
  · rw [if_neg hx]
    obtain ⟨n, n1, n60, e⟩ := within60 hx
    subst e
    split
    · have key := lp_ix (body := lX9_tick_40 (o32 n)) (fun i s => s.1 = o32 i ∧ MI s.2 ∧ Fw m s.2) (fun e => MI e.2 ∧ Fw m e.2) n 0 ((0 : Int32), m) fu ⟨rfl, h, Fw_refl m⟩ (fun i s _ h2 hI => ?_) (fun s hI => ?_) (lt_fu (by omega))
      · obtain ⟨⟨v, m'⟩, e1, e2⟩ := key
        exact ⟨v, m', e1, e2⟩
      · obtain ⟨s1, s2⟩ := s
        obtain ⟨e1, hM, hF⟩ := hI
        dsimp only at e1 hM hF
        subst e1
        obtain ⟨m', e, M1, F1⟩ := ticks_op hM (TX_Fw ht hF) (OD_Fw ho hF)
        refine ⟨(o32 i + 1, m'), ?_, by show o32 i + 1 = _; rw [o_s], M1, Fw_trans hF F1⟩
        unfold lX9_tick_40
        dsimp only
        rw [if_neg (fun z => by have := (o_le (by omega) (by omega)).mp z; omega), e]
        rfl
      · obtain ⟨s1, s2⟩ := s
        obtain ⟨e1, hM, hF⟩ := hI
        dsimp only at e1 hM hF
        subst e1
        obtain ⟨v, e⟩ := many_op s2
        refine ⟨(v, s2), ?_, hM, hF⟩
        unfold lX9_tick_40
        dsimp only
        rw [if_pos ((o_le (by omega) (by omega)).mpr (by omega)), e]
        rfl
    · rw [fnd3]
      obtain ⟨a, b⟩ := MI_141 (k := 3) (v := m 141 3 + 1) h
      exact ⟨_, _, rfl, a, Fw_Fz b⟩

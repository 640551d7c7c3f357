/-! the model's tick: liquid that runs, walls that burst, the whole tick -/
theorem glasses_op {m : Mem} {b : Nat} {l : List Nat} (hb : b < 16) (h : rgAt m b l) : ∃ w, fX9_glassesOf (o32 b) m = some w := by
  have hl := h.1
  have key := lp_inv (body := lX9_glassesOf_4 (o32 b) m) (fun s => ∃ i, i ≤ 45 ∧ s.2 = o32 i) (fun s => 100 - s.2.toNatClampNeg) (fun _ => True) (fun s hs => ?_) fu ((0 : Int32), (0 : Int32)) ⟨0, by omega, rfl⟩ (lt_fu (by omega))
  · obtain ⟨e, e1, _⟩ := key
    exact ⟨e, e1⟩
  · obtain ⟨s1, s2⟩ := s
    obtain ⟨i, hi, e⟩ := hs
    dsimp only at e
    subst e
    unfold lX9_glassesOf_4
    dsimp only
    rw [sd_o hb, h.2.1, Option.bind_some]
    by_cases hn : l.length ≤ i
    · right
      rw [if_pos ((o_le (by omega) (by omega)).mpr hn)]
      exact ⟨_, rfl, trivial⟩
    · left
      rw [if_neg (fun z => hn ((o_le (by omega) (by omega)).mp z)), rg_o hb (by omega), Option.bind_some]
      have dec : 100 - (o32 i + 1).toNatClampNeg < 100 - (o32 i).toNatClampNeg := by rw [o_s, o_tn (by omega), o_tn (by omega)]; omega
      split
      · exact ⟨_, rfl, ⟨i + 1, by omega, by show o32 i + 1 = _; rw [o_s]⟩, dec⟩
      · exact ⟨_, rfl, ⟨i + 1, by omega, by show o32 i + 1 = _; rw [o_s]⟩, dec⟩
theorem isLower_op {m : Mem} {n a : Nat} (hn : n ≤ 16) (ha : a < 16) : fX9_isLower (o32 n) (o32 a) m = some 0 ∨ (n < 16 ∧ fX9_isLower (o32 n) (o32 a) m = some 1) := by
  have o4 : ∀ {x : Nat}, x < 16 → fX9_of (o32 x) 4 m = some (m 138 (12 + 50 * x + 4)) := fun hx => of_o (f := 4) hx (by omega)
  have n16 : o32 n = 16 ↔ n = 16 := o_eq (b := 16) (by omega) (by omega)
  unfold fX9_isLower
  by_cases q : n = 16
  · left; rw [if_pos (n16.mpr q)]
  · rw [if_neg (fun w => q (n16.mp w)), o4 (by omega), Option.bind_some, o4 ha, Option.bind_some]
    split
    · exact .inl rfl
    · exact .inr ⟨by omega, rfl⟩
theorem drains_op {m : Mem} (x : Int32) (h : MI m) : MI (fX9_drains x m) ∧ Fw m (fX9_drains x m) := by
  unfold fX9_drains
  exact ⟨MI_far (.inr (.inl (by omega))) h, Fw_put (by omega)⟩
theorem runs209_op {m : Mem} {a : Nat} {l : List Nat} (x3 x4 : Int32) (ha : a < 16) (hr : rgAt m a l) (h : MI m) : ∃ m', bX9_runs_209 (o32 a) x3 x4 m = some (.inl (o32 (a + 1), m')) ∧ MI m' ∧ Fw m m' := by
  unfold bX9_runs_209
  rw [o_s]
  split
  · obtain ⟨w, e⟩ := glasses_op ha hr
    rw [e, Option.bind_some]
    split
    · exact ⟨_, rfl, h, Fw_refl m⟩
    · rw [if_pos (o_inb (by omega) (by omega)), if_pos (o_inb (by omega) (by omega))]
      have M1 : ∀ j v, MI (mput m 147 j v) ∧ Fw m (mput m 147 j v) := fun j v => ⟨MI_far (.inl (by omega)) h, Fw_put (by omega)⟩
      have d := drains_op x3 (M1 (o32 a).toNatClampNeg (m 147 (o32 a).toNatClampNeg - x3)).1
      exact ⟨_, rfl, d.1, Fw_trans (M1 _ _).2 d.2⟩
  · exact ⟨_, rfl, h, Fw_refl m⟩
theorem runs139_op {m : Mem} {a : Nat} {l : List Nat} (x3 x4 : Int32) (ha : a < 16) (hr : rgAt m a l) (h : MI m) : ∃ m', lp (lX9_runs_139 (o32 a) x3 x4) fu ((0 : Int32), m) = some (.inl (o32 (a + 1), m')) ∧ MI m' ∧ Fw m m' := by
  have hl := hr.1
  have key := lp_inv (body := lX9_runs_139 (o32 a) x3 x4) (fun s => ∃ i, i ≤ 45 ∧ s.1 = o32 i ∧ (∀ j, s.2 138 j = m 138 j) ∧ MI s.2 ∧ Fw m s.2) (fun s => 100 - s.1.toNatClampNeg) (fun e => ∃ m', e = .inl (o32 (a + 1), m') ∧ MI m' ∧ Fw m m') (fun s hs => ?_) fu ((0 : Int32), m) ⟨0, by omega, rfl, fun _ => rfl, h, Fw_refl m⟩ (lt_fu (by omega))
  · obtain ⟨e, e1, m', e2, e3⟩ := key
    exact ⟨m', by rw [e1, e2], e3⟩
  · obtain ⟨s1, s2⟩ := s
    obtain ⟨i, hi, e, h138, hM, hF⟩ := hs
    dsimp only at e h138 hM hF
    subst e
    have hr2 : rgAt s2 a l := rgAt_same hr (fun z _ _ => h138 z)
    have fin : ∃ e, (bX9_runs_209 (o32 a) x3 x4 s2).map Sum.inr = (some (.inr e) : Option ((Int32 × Mem) ⊕ ((Int32 × Mem) ⊕ Mem))) ∧ ∃ m', e = .inl (o32 (a + 1), m') ∧ MI m' ∧ Fw m m' := by
      obtain ⟨m', e, M1, F1⟩ := runs209_op x3 x4 ha hr2 hM
      rw [e]
      exact ⟨_, rfl, m', rfl, M1, Fw_trans hF F1⟩
    unfold lX9_runs_139
    dsimp only
    rw [sd_o ha, hr2.2.1, Option.bind_some]
    by_cases hn : l.length ≤ i
    · right
      rw [if_pos ((o_le (by omega) (by omega)).mpr hn)]
      exact fin
    · rw [if_neg (fun z => hn ((o_le (by omega) (by omega)).mp z))]
      by_cases h4 : x4 ≤ 0
      · right
        rw [if_pos h4]
        exact fin
      · left
        have n0 : ¬ x4 = 0 := fun w => h4 (by rw [w]; decide)
        have dec : 100 - (o32 i + 1).toNatClampNeg < 100 - (o32 i).toNatClampNeg := by rw [o_s, o_tn (by omega), o_tn (by omega)]; omega
        have hx := hr2.2.2.1 _ (List.getElem_mem (show i < l.length by omega))
        rw [if_neg h4, rg_o ha (by omega), hr2.2.2.2 i (by omega), Option.bind_some]
        generalize l[i] = x at hx
        rcases isLower_op (m := s2) hx ha with q | ⟨hx16, q⟩
        · rw [q, Option.bind_some, if_pos rfl]
          exact ⟨_, rfl, ⟨i + 1, by omega, by show o32 i + 1 = _; rw [o_s], h138, hM, hF⟩, dec⟩
        · have bx : inb (o32 x) 16 := o_inb (by omega) (by omega)
          have ba : inb (o32 a) 16 := o_inb (by omega) (by omega)
          rw [q, Option.bind_some, if_neg (by decide), if_pos bx, if_pos n0, if_pos bx, if_pos ba, if_pos n0, if_pos ba]
          exact ⟨_, rfl, ⟨i + 1, by omega, by show o32 i + 1 = _; rw [o_s], fun j => by dsimp only; rw [mput_get, if_neg (by omega), mput_get, if_neg (by omega)]; exact h138 j, MI_far (.inl (by omega)) (MI_far (.inl (by omega)) hM), Fw_trans hF (Fw_trans (Fw_put (by omega)) (Fw_put (by omega)))⟩, dec⟩
theorem runs92_op {m : Mem} {a : Nat} {l : List Nat} (x3 : Int32) (ha : a < 16) (hr : rgAt m a l) (h : MI m) : ∃ m', lp (lX9_runs_92 (o32 a) x3 m) fu ((0 : Int32), (0 : Int32)) = some (.inl (o32 (a + 1), m')) ∧ MI m' ∧ Fw m m' := by
  have hl := hr.1
  have key := lp_inv (body := lX9_runs_92 (o32 a) x3 m) (fun s => ∃ i, i ≤ 45 ∧ s.2 = o32 i) (fun s => 100 - s.2.toNatClampNeg) (fun e => ∃ m', e = .inl (o32 (a + 1), m') ∧ MI m' ∧ Fw m m') (fun s hs => ?_) fu ((0 : Int32), (0 : Int32)) ⟨0, by omega, rfl⟩ (lt_fu (by omega))
  · obtain ⟨e, e1, m', e2, e3⟩ := key
    exact ⟨m', by rw [e1, e2], e3⟩
  · obtain ⟨s1, s2⟩ := s
    obtain ⟨i, hi, e⟩ := hs
    dsimp only at e
    subst e
    unfold lX9_runs_92
    dsimp only
    rw [sd_o ha, hr.2.1, Option.bind_some]
    by_cases hn : l.length ≤ i
    · right
      rw [if_pos ((o_le (by omega) (by omega)).mpr hn)]
      obtain ⟨m', e, M1, F1⟩ := runs139_op x3 s1 ha hr h
      rw [e]
      exact ⟨_, rfl, m', rfl, M1, F1⟩
    · left
      have dec : 100 - (o32 i + 1).toNatClampNeg < 100 - (o32 i).toNatClampNeg := by rw [o_s, o_tn (by omega), o_tn (by omega)]; omega
      have hx := hr.2.2.1 _ (List.getElem_mem (show i < l.length by omega))
      rw [if_neg (fun z => hn ((o_le (by omega) (by omega)).mp z)), rg_o ha (by omega), hr.2.2.2 i (by omega), Option.bind_some]
      generalize l[i] = x at hx
      rcases isLower_op (m := m) hx ha with q | ⟨_, q⟩
      · rw [q, Option.bind_some, if_pos rfl]
        exact ⟨_, rfl, ⟨i + 1, by omega, by show o32 i + 1 = _; rw [o_s]⟩, dec⟩
      · rw [q, Option.bind_some, if_neg (by decide)]
        exact ⟨_, rfl, ⟨i + 1, by omega, by show o32 i + 1 = _; rw [o_s]⟩, dec⟩
theorem runs67_op {m : Mem} {a : Nat} {l : List Nat} (y : Int32) (ha : a < 16) (hr : rgAt m a l) (h : MI m) : ∃ m', bX9_runs_67 (o32 a) y m = some (.inl (o32 (a + 1), m')) ∧ MI m' ∧ Fw m m' := by
  have o3 : fX9_of (o32 a) 3 m = some (m 138 (12 + 50 * a + 3)) := of_o (f := 3) ha (by omega)
  unfold bX9_runs_67
  rw [o3, Option.bind_some]
  unfold bX9_runs_84
  split
  · rw [if_pos (by decide)]
    exact runs92_op _ ha hr h
  · rw [if_pos (by decide)]
    exact runs92_op _ ha hr h
theorem runs_op {m : Mem} (h : MI m) : ∃ m', fX9_runs m = some m' ∧ MI m' ∧ Fw m m' := by
  have nl : ∀ {i : Nat}, i < 16 → ¬ (16 : Int32) ≤ o32 i := fun hi z => by
    have := (o_le (a := 16) (by omega) (by omega)).mp z
    omega
  have L245 : ∀ m0, MI m0 → Fw m m0 → ∃ m', lp lX9_runs_245 fu ((0 : Int32), m0) = some m' ∧ MI m' ∧ Fw m m' := fun m0 h0 f0 => by
    refine lp_ix (body := lX9_runs_245) (fun i s => s.1 = o32 i ∧ MI s.2 ∧ Fw m s.2) (fun e => MI e ∧ Fw m e) 16 0 ((0 : Int32), m0) fu ⟨rfl, h0, f0⟩ (fun i s _ h2 hI => ?_) (fun s hI => ?_) (lt_fu (by omega))
    · obtain ⟨s1, s2⟩ := s
      obtain ⟨e1, hM, hF⟩ := hI
      dsimp only at e1 hM hF
      subst e1
      have i16 : i < 16 := by omega
      have hM1 := hM
      obtain ⟨r, al, g, f, s⟩ := hM
      have bi : inb (o32 i) 16 := o_inb i16 (by omega)
      have t3 : ∀ v m, fX9_tells (o32 i) 3 v m = some (mput m 138 (12 + 50 * i + 3) v) := fun v m => tl_o (f := 3) i16 (by omega)
      unfold lX9_runs_245
      dsimp only
      rw [if_neg (nl i16), is_s i16 s, Option.bind_some]
      by_cases ai : al i = true
      · rw [ai, if_neg (by decide), if_pos bi, if_pos bi, t3, Option.bind_some]
        have d := drains_op (fJ9_max_7cf53 0 ((s2 147 (o32 i).toNatClampNeg) - 99999)) hM1
        exact ⟨_, rfl, by show o32 i + 1 = _; rw [o_s], MI_fld (by omega) (by omega) d.1, Fw_trans hF (Fw_trans d.2 (Fw_put (by omega)))⟩
      · rw [Bool.eq_false_iff.mpr ai, if_pos (show i01 false = 0 from rfl)]
        exact ⟨_, rfl, by show o32 i + 1 = _; rw [o_s], hM1, hF⟩
    · obtain ⟨s1, s2⟩ := s
      obtain ⟨e1, hM, hF⟩ := hI
      dsimp only at e1 hM hF
      subst e1
      refine ⟨s2, ?_, hM, hF⟩
      unfold lX9_runs_245
      dsimp only
      rw [if_pos (show (16 : Int32) ≤ o32 (0 + 16) by decide)]
  have L28 : ∀ m0, MI m0 → Fw m m0 → ∃ m', lp lX9_runs_28 fu ((0 : Int32), m0) = some m' ∧ MI m' ∧ Fw m m' := fun m0 h0 f0 => by
    refine lp_ix (body := lX9_runs_28) (fun i s => s.1 = o32 i ∧ MI s.2 ∧ Fw m s.2) (fun e => MI e ∧ Fw m e) 16 0 ((0 : Int32), m0) fu ⟨rfl, h0, f0⟩ (fun i s _ h2 hI => ?_) (fun s hI => ?_) (lt_fu (by omega))
    · obtain ⟨s1, s2⟩ := s
      obtain ⟨e1, hM, hF⟩ := hI
      dsimp only at e1 hM hF
      subst e1
      have i16 : i < 16 := by omega
      have hM1 := hM
      obtain ⟨r, al, g, f, s⟩ := hM
      have o1 : fX9_of (o32 i) 1 s2 = some (s2 138 (12 + 50 * i + 1)) := of_o (f := 1) i16 (by omega)
      unfold lX9_runs_28
      dsimp only
      rw [if_neg (nl i16), is_s i16 s, Option.bind_some]
      by_cases ai : al i = true
      · have go : ∀ y, ∃ s', bX9_runs_67 (o32 i) y s2 = some (.inl s') ∧ s'.1 = o32 (i + 1) ∧ MI s'.2 ∧ Fw m s'.2 := fun y => by
          obtain ⟨m', e, M1, F1⟩ := runs67_op y i16 ((s i i16).2 ai) hM1
          exact ⟨_, e, rfl, M1, Fw_trans hF F1⟩
        rw [ai, if_neg (by decide), o1, Option.bind_some]
        split
        · exact go 1
        · rw [Option.bind_some]
          split
          · exact go 1
          · exact go 0
      · rw [Bool.eq_false_iff.mpr ai, if_pos (show i01 false = 0 from rfl)]
        exact ⟨_, rfl, by show o32 i + 1 = _; rw [o_s], hM1, hF⟩
    · obtain ⟨s1, s2⟩ := s
      obtain ⟨e1, hM, hF⟩ := hI
      dsimp only at e1 hM hF
      subst e1
      obtain ⟨m', e, M1, F1⟩ := L245 s2 hM hF
      refine ⟨m', ?_, M1, F1⟩
      unfold lX9_runs_28
      dsimp only
      rw [if_pos (show (16 : Int32) ≤ o32 (0 + 16) by decide), e]
      rfl
  refine lp_ix (body := lX9_runs_2) (fun i s => s.1 = o32 i ∧ MI s.2 ∧ Fw m s.2) (fun e => MI e ∧ Fw m e) 16 0 ((0 : Int32), m) fu ⟨rfl, h, Fw_refl m⟩ (fun i s _ h2 hI => ?_) (fun s hI => ?_) (lt_fu (by omega))
  · obtain ⟨s1, s2⟩ := s
    obtain ⟨e1, hM, hF⟩ := hI
    dsimp only at e1 hM hF
    subst e1
    have i16 : i < 16 := by omega
    have o3 : fX9_of (o32 i) 3 s2 = some (s2 138 (12 + 50 * i + 3)) := of_o (f := 3) i16 (by omega)
    unfold lX9_runs_2
    dsimp only
    rw [if_neg (nl i16), o3, Option.bind_some, if_pos (o_inb i16 (by omega))]
    exact ⟨_, rfl, by show o32 i + 1 = _; rw [o_s], MI_far (.inl (by omega)) hM, Fw_trans hF (Fw_put (by omega))⟩
  · obtain ⟨s1, s2⟩ := s
    obtain ⟨e1, hM, hF⟩ := hI
    dsimp only at e1 hM hF
    subst e1
    obtain ⟨m', e, M1, F1⟩ := L28 s2 hM hF
    refine ⟨m', ?_, M1, F1⟩
    unfold lX9_runs_2
    dsimp only
    rw [if_pos (show (16 : Int32) ≤ o32 (0 + 16) by decide), e]
    rfl

/-! the model's tick: its first turn, its texts at work -/
def Fw (m m' : Mem) : Prop := (∀ c j, c ≠ 138 → c ≠ 141 → c ≠ 142 → c ≠ 145 → c ≠ 146 → c ≠ 147 → m' c j = m c j) ∧ (∀ j, j = 1 ∨ j = 2 ∨ j = 4 ∨ j = 5 ∨ j = 6 ∨ j = 11 ∨ 812 ≤ j → m' 138 j = m 138 j)
theorem Fw_refl (m : Mem) : Fw m m := ⟨fun _ _ _ _ _ _ _ _ => rfl, fun _ _ => rfl⟩
theorem Fw_trans {m m1 m2 : Mem} (h1 : Fw m m1) (h2 : Fw m1 m2) : Fw m m2 := ⟨fun c j a1 a2 a3 a4 a5 a6 => (h2.1 c j a1 a2 a3 a4 a5 a6).trans (h1.1 c j a1 a2 a3 a4 a5 a6), fun j h => (h2.2 j h).trans (h1.2 j h)⟩
theorem Fw_Fz {m m' : Mem} (h : Fz m m') : Fw m m' := ⟨fun c j a1 a2 a3 _ _ _ => h c j (fun z => a1 z.1) a2 a3, fun j hj => h 138 j (fun z => by omega) (by omega) (by omega)⟩
theorem MI_fld {m : Mem} {n f : Nat} {v : Int32} (hf1 : 1 ≤ f) (hf4 : f ≤ 4) (h : MI m) : MI (mput m 138 (12 + 50 * n + f) v) := by
  obtain ⟨r, al, g, fc, s⟩ := h
  refine ⟨r, al, g, fc, fun b hb => ⟨by rw [mput_get, if_neg (by omega)]; exact (s b hb).1, fun ha => ?_⟩⟩
  obtain ⟨h1, h2, h3, h4⟩ := (s b hb).2 ha
  exact ⟨h1, by rw [mput_get, if_neg (by omega)]; exact h2, h3, fun i hi => by rw [mput_get, if_neg (by omega)]; exact h4 i hi⟩
theorem MI_far {m : Mem} {c j : Nat} {v : Int32} (hf : c ≠ 138 ∨ j < 12 ∨ 812 ≤ j) (h : MI m) : MI (mput m c j v) := by
  obtain ⟨r, al, g, fc, s⟩ := h
  exact ⟨r, al, g, fc, RS_same s (fun i h1 h2 => by rw [mput_get, if_neg (by omega)])⟩
theorem Fw_put {m : Mem} {c j : Nat} {v : Int32} (h : (c = 138 ∧ j < 812 ∧ (j = 0 ∨ j = 3 ∨ (7 ≤ j ∧ j ≤ 10) ∨ 12 ≤ j)) ∨ c = 141 ∨ c = 142 ∨ c = 145 ∨ c = 146 ∨ c = 147) : Fw m (mput m c j v) := ⟨fun c' j' a1 a2 a3 a4 a5 a6 => by rw [mput_get, if_neg (by omega)], fun j' hj => by rw [mput_get, if_neg (by omega)]⟩
theorem leastIn_op {m : Mem} {b : Nat} {l : List Nat} (hb : b < 16) (h : rgAt m b l) : ∃ k, fX9_leastIn (o32 b) m = some (o32 k) ∧ (k = 0 ∨ k < l.length) := by
  have hl := h.1
  have key := lp_inv (body := lX9_leastIn_4 (o32 b) m) (fun s => ∃ k i, s = (o32 k, o32 i) ∧ (k = 0 ∨ k < l.length) ∧ 1 ≤ i ∧ i ≤ 45) (fun s => 100 - s.2.toNatClampNeg) (fun e => ∃ k, e = o32 k ∧ (k = 0 ∨ k < l.length)) (fun s hs => ?_) fu ((0 : Int32), (1 : Int32)) ⟨0, 1, rfl, .inl rfl, by omega, by omega⟩ (lt_fu (by omega))
  · obtain ⟨e, e1, k, e2, e3⟩ := key
    exact ⟨k, by unfold fX9_leastIn; rw [e1, e2], e3⟩
  · obtain ⟨k, i, e, hk, h1, h2⟩ := hs
    subst e
    unfold lX9_leastIn_4
    dsimp only
    rw [sd_o hb, h.2.1, Option.bind_some]
    by_cases hi : l.length ≤ i
    · right
      rw [if_pos ((o_le (by omega) (by omega)).mpr hi)]
      exact ⟨_, rfl, k, rfl, hk⟩
    · left
      rw [if_neg (fun z => hi ((o_le (by omega) (by omega)).mp z)), rg_o hb (by omega), Option.bind_some, rg_o hb (by omega), Option.bind_some]
      have dec : 100 - (o32 i + 1).toNatClampNeg < 100 - (o32 i).toNatClampNeg := by rw [o_s, o_tn (by omega), o_tn (by omega)]; omega
      split
      · exact ⟨_, rfl, ⟨k, i + 1, by rw [o_s], hk, by omega, by omega⟩, dec⟩
      · exact ⟨_, rfl, ⟨i, i + 1, by rw [o_s], .inr (by omega), by omega, by omega⟩, dec⟩
theorem turnsFirst_op {m : Mem} {r : Nat → List Nat} {al : Nat → Bool} {a : Nat} (ha : a < 16) (hs : RS m r al) (hg : Gr r al) (hf : FC r al) (ala : al a = true) : ∃ m', fX9_turnsFirst (o32 a) m = some m' ∧ MI m' ∧ Fz m m' := by
  have ra := (hs a ha).2 ala
  have hl := ra.1
  obtain ⟨k, ek, hk⟩ := leastIn_op ha ra
  have hM : MI m := ⟨r, al, hg, hf, hs⟩
  have key := lp_inv (body := lX9_turnsFirst_18 (o32 a) (o32 k) (o32 (r a).length)) (fun s => ∃ i, i ≤ 44 ∧ s.2.1 = o32 i ∧ ((s.1 = 0 ∧ s.2.2 = m) ∨ (s.1 = 1 ∧ MI s.2.2 ∧ Fz m s.2.2))) (fun s => 100 - s.2.1.toNatClampNeg) (fun e => MI e ∧ Fz m e) (fun s h => ?_) fu ((0 : Int32), (0 : Int32), m) ⟨0, by omega, rfl, .inl ⟨rfl, rfl⟩⟩ (lt_fu (by omega))
  · obtain ⟨e, e1, e2⟩ := key
    refine ⟨e, ?_, e2⟩
    unfold fX9_turnsFirst
    rw [ek, Option.bind_some, sd_o ha, ra.2.1, Option.bind_some, e1]
  · obtain ⟨s1, s2, s3⟩ := s
    obtain ⟨i, hi, e2, h3⟩ := h
    dsimp only at e2 h3
    subst e2
    have fin : MI s3 ∧ Fz m s3 := by
      rcases h3 with ⟨_, e⟩ | ⟨_, e⟩
      · rw [e]; exact ⟨hM, fun _ _ _ _ _ => rfl⟩
      · exact e
    unfold lX9_turnsFirst_18
    dsimp only
    by_cases hn : (r a).length ≤ i
    · right
      rw [if_pos ((o_le (by omega) (by omega)).mpr hn)]
      exact ⟨_, rfl, fin⟩
    · rw [if_neg (fun z => hn ((o_le (by omega) (by omega)).mp z))]
      rcases h3 with ⟨e1, e3⟩ | ⟨e1, e3⟩
      · subst e1 e3
        left
        have dec : 100 - (o32 i + 1).toNatClampNeg < 100 - (o32 i).toNatClampNeg := by rw [o_s, o_tn (by omega), o_tn (by omega)]; omega
        rw [if_pos rfl, o_add]
        obtain ⟨z, hz, ez⟩ : ∃ z, ∃ hz : z < (r a).length, fX9_at (o32 a) (o32 (k + i)) s3 = some (o32 ((r a)[z])) := by
          by_cases q : k + i < (r a).length
          · exact ⟨k + i, q, at_s ha ra q (.inl (by rw [o_ti (by omega)]))⟩
          · exact ⟨k + i - (r a).length, by omega, at_s ha ra (by omega) (.inr (.inl (by rw [o_ti (by omega)]; omega)))⟩
        rw [ez, Option.bind_some]
        have hm := List.getElem_mem hz
        generalize (r a)[z] = b at hm
        have pb := hg.1 a ha ala b hm
        have b16 : o32 b = 16 ↔ b = 16 := o_eq (b := 16) (by omega) (by omega)
        by_cases q : b = 16
        · rw [if_pos (b16.mpr q)]
          exact ⟨_, rfl, ⟨i + 1, by omega, by show o32 i + 1 = _; rw [o_s], .inl ⟨rfl, rfl⟩⟩, dec⟩
        · rw [if_neg (fun w => q (b16.mp w))]
          have pb2 := pb.2 q
          obtain ⟨v, e4, h4⟩ := canTurn_s ha (show b < 16 by omega) hs hg ala pb2.1 hm
          rw [e4, Option.bind_some]
          rcases h4 with ⟨hv, ht⟩ | ⟨hv, _⟩
          · rw [hv, if_neg (by decide)]
            obtain ⟨m', e5, g5, f5, s5, z5⟩ := turns_op ha (show b < 16 by omega) hs hg hf ala pb2.1 hm ht
            rw [e5, Option.bind_some]
            exact ⟨_, rfl, ⟨i + 1, by omega, by show o32 i + 1 = _; rw [o_s], .inr ⟨rfl, ⟨_, _, g5, f5, s5⟩, z5⟩⟩, dec⟩
          · rw [hv, if_pos rfl]
            exact ⟨_, rfl, ⟨i + 1, by omega, by show o32 i + 1 = _; rw [o_s], .inl ⟨rfl, rfl⟩⟩, dec⟩
      · right
        rw [if_neg (by rw [e1]; decide)]
        exact ⟨_, rfl, fin⟩
/-- the end of a tick: vanishings and turns where no gas is left -/
theorem tickEnd_op {m : Mem} (h : MI m) : ∃ m', lp lX9_ticks_14 fu ((0 : Int32), m) = some m' ∧ MI m' ∧ Fw m m' := by
  refine (lp_ix (body := lX9_ticks_14) (fun i s => s.1 = o32 i ∧ MI s.2 ∧ Fw m s.2) (fun e => MI e ∧ Fw m e) 16 0 ((0 : Int32), m) fu ⟨rfl, h, Fw_refl m⟩ (fun i s _ h2 hi => ?_) (fun s hi => ?_) (lt_fu (by omega)))
  · obtain ⟨s1, s2⟩ := s
    obtain ⟨e1, hM, hF⟩ := hi
    dsimp only at e1 hM hF
    subst e1
    have hM0 := hM
    obtain ⟨r, al, g, f, s⟩ := hM
    have nl : ¬ (16 : Int32) ≤ o32 i := fun z => by
      have := (o_le (a := 16) (by omega) (by omega)).mp z
      omega
    have i16 : i < 16 := by omega
    have go : ∀ m2, MI m2 → Fw s2 m2 → ∃ s', (some (.inl ((o32 i + 1), m2)) : Option ((Int32 × Mem) ⊕ Mem)) = some (.inl s') ∧ s'.1 = o32 (i + 1) ∧ MI s'.2 ∧ Fw m s'.2 := fun m2 h1 h2 => ⟨_, rfl, by show o32 i + 1 = _; rw [o_s], h1, Fw_trans hF h2⟩
    have o2 : fX9_of (o32 i) 2 s2 = some (s2 138 (12 + 50 * i + 2)) := of_o (f := 2) i16 (by omega)
    unfold lX9_ticks_14
    dsimp only
    rw [if_neg nl, is_s i16 s, Option.bind_some]
    by_cases hal : al i = true
    · have ra := (s i i16).2 hal
      have hl := ra.1
      rw [hal, if_neg (by decide), o2, Option.bind_some]
      by_cases q : s2 138 (12 + 50 * i + 2) = 0
      · rw [if_pos q, sd_o i16, ra.2.1, Option.bind_some]
        by_cases q3 : o32 (r i).length ≤ 3
        · rw [if_pos q3, Option.bind_some]
          by_cases q4 : o32 (r i).length = 3
          · have h3 : (r i).length = 3 := (o_eq (b := 3) (by omega) (by omega)).mp q4
            rw [if_pos q4, canVanish_s i16 s g hal, Option.bind_some]
            by_cases hm : mayVan r i = true
            · rw [hm, if_neg (by decide)]
              obtain ⟨m', e4, g4, f4, s4, z4⟩ := vans_op i16 s g f hal h3
              rw [e4, Option.bind_some]
              exact go _ ⟨_, _, g4, f4, s4⟩ (Fw_Fz z4)
            · rw [Bool.eq_false_iff.mpr hm, if_pos (show i01 false = 0 from rfl)]
              exact go _ hM0 (Fw_refl _)
          · rw [if_neg q4]
            exact go _ hM0 (Fw_refl _)
        · rw [if_neg q3]
          obtain ⟨m', e4, h4, z4⟩ := turnsFirst_op i16 s g f hal
          rw [e4, Option.bind_some]
          exact go _ h4 (Fw_Fz z4)
      · rw [if_neg q]
        exact go _ hM0 (Fw_refl _)
    · rw [Bool.eq_false_iff.mpr hal, if_pos (show i01 false = 0 from rfl)]
      exact go _ hM0 (Fw_refl _)
  · obtain ⟨s1, s2⟩ := s
    obtain ⟨e1, hM, hF⟩ := hi
    dsimp only at e1 hM hF
    subst e1
    refine ⟨mput s2 138 0 (s2 138 0 + 1), ?_, MI_far (.inr (.inl (by omega))) hM, Fw_trans hF (Fw_put (by omega))⟩
    unfold lX9_ticks_14
    dsimp only
    rw [if_pos (show (16 : Int32) ≤ o32 (0 + 16) by decide)]

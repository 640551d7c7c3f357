/-! what the model answers of its walls -/
theorem MF_1 {m : Mem} (h : MI m) : ∃ v m', fX9_finding (-1000001) m = some (v, m') ∧ MI m' ∧ Fw m m' := by
  obtain ⟨a, b⟩ := MI_141 (k := 1) (v := m 141 1 + 1) h
  exact ⟨_, _, fnd1 m, a, Fw_Fz b⟩
theorem MF_3 {m : Mem} (h : MI m) : ∃ v m', fX9_finding (-1000003) m = some (v, m') ∧ MI m' ∧ Fw m m' := by
  obtain ⟨a, b⟩ := MI_141 (k := 3) (v := m 141 3 + 1) h
  exact ⟨_, _, fnd3 m, a, Fw_Fz b⟩
theorem bd_s {q : Option (Int32 × Mem)} {m : Mem} (h : ∃ v m', q = some (v, m') ∧ MI m' ∧ Fw m m') : ∃ v m', (q.bind fun q => some (q.1, q.2)) = some (v, m') ∧ MI m' ∧ Fw m m' := by
  obtain ⟨v, m', e, r⟩ := h
  exact ⟨v, m', by rw [e]; rfl, r⟩
theorem beside_op {m : Mem} (x y : Int32) (h : MI m) : ∃ v m', fX9_beside x y m = some (v, m') ∧ MI m' ∧ Fw m m' := by
  have h0 := h
  obtain ⟨r, al, g, f, s⟩ := h
  unfold fX9_beside
  rcases two_any s x y with e | ⟨a, b, ha, hb, hne, ex, ey, ala, alb, e⟩
  · rw [e, Option.bind_some, if_pos rfl]
    exact bd_s (MF_1 h0)
  · rw [e, Option.bind_some, if_neg (by decide)]
    subst ex ey
    rcases wall_any s ha hb ala with ⟨hw, e2⟩ | ⟨hw, e2⟩
    · rw [e2, Option.bind_some, if_neg (by decide)]
      exact ⟨_, _, rfl, h0, Fw_refl m⟩
    · rw [e2, Option.bind_some, if_pos rfl]
      exact ⟨_, _, rfl, h0, Fw_refl m⟩
theorem end_op {m : Mem} (x y z : Int32) (h : MI m) : ∃ v m', fX9_end x y z m = some (v, m') ∧ MI m' ∧ Fw m m' := by
  have h0 := h
  obtain ⟨r, al, g, f, s⟩ := h
  have no : ∃ v m', bX9_end_18 m = some (v, m') ∧ MI m' ∧ Fw m m' := by
    unfold bX9_end_18
    exact bd_s (MF_1 h0)
  unfold fX9_end
  rcases two_any s x y with e | ⟨a, b, ha, hb, hne, ex, ey, ala, alb, e⟩
  · rw [e, Option.bind_some, if_pos rfl]
    exact no
  · rw [e, Option.bind_some, if_neg (by decide)]
    subst ex ey
    split
    · exact no
    · rcases wall_any s ha hb ala with ⟨hw, e2⟩ | ⟨hw, e2⟩
      · rw [e2, Option.bind_some, if_neg (by decide)]
        split
        · rw [ahead_s ha (by omega) ((s a ha).2 ala) hw, Option.bind_some]
          exact ⟨_, _, rfl, h0, Fw_refl m⟩
        · rw [behind_s ha (by omega) ((s a ha).2 ala) hw, Option.bind_some]
          exact ⟨_, _, rfl, h0, Fw_refl m⟩
      · rw [e2, Option.bind_some, if_pos rfl]
        exact bd_s (MF_3 h0)
theorem passes_op {m : Mem} (x y : Int32) (h : MI m) (ht : TX m) : ∃ v m', fX9_passes x y m = some (v, m') ∧ MI m' ∧ Fw m m' := by
  have h0 := h
  obtain ⟨r, al, g, f, s⟩ := h
  unfold fX9_passes
  rcases two_any s x y with e | ⟨a, b, ha, hb, hne, ex, ey, ala, alb, e⟩
  · rw [e, Option.bind_some, if_pos rfl]
    exact bd_s (MF_1 h0)
  · rw [e, Option.bind_some, if_neg (by decide)]
    subst ex ey
    rcases wall_any s ha hb ala with ⟨hw, e2⟩ | ⟨hw, e2⟩
    · rw [e2, Option.bind_some, if_neg (by decide)]
      split
      · obtain ⟨v, m', e3, f3⟩ := passesBy_op hb ha ht
        rw [e3, Option.bind_some]
        exact ⟨_, _, rfl, MI_146 h0 f3⟩
      · obtain ⟨v, m', e3, f3⟩ := passesBy_op ha hb ht
        rw [e3, Option.bind_some]
        exact ⟨_, _, rfl, MI_146 h0 f3⟩
    · rw [e2, Option.bind_some, if_pos rfl]
      exact bd_s (MF_3 h0)
theorem pace_op {m : Mem} (x : Int32) (h : MI m) : ∃ v m', fX9_pace x m = some (v, m') ∧ MI m' ∧ Fw m m' := by
  have h0 := h
  obtain ⟨r, al, g, f, s⟩ := h
  unfold fX9_pace
  rcases is_any s x with e | ⟨a, ha, ea, ala, e⟩
  · rw [e, Option.bind_some, if_pos rfl]
    exact bd_s (MF_1 h0)
  · subst ea
    rw [e, Option.bind_some, if_neg (by decide), sd_o ha, Option.bind_some]
    exact ⟨_, _, rfl, h0, Fw_refl m⟩
theorem seed_op {m : Mem} (x : Int32) (h : MI m) : ∃ v m', fX9_seed x m = some (v, m') ∧ MI m' ∧ Fw m m' := by
  have b3 : inb 3 1082 := o_inb (j := 3) (by omega) (by omega)
  unfold fX9_seed fX9_comes
  rw [if_pos b3, if_pos b3, Option.bind_some]
  exact ⟨_, _, rfl, MI_far (.inr (.inl (show (3 : Int32).toNatClampNeg < 12 by decide))) h, Fw_put (.inl ⟨rfl, by decide, .inr (.inl rfl)⟩)⟩
theorem can_op {m : Mem} (x y z : Int32) (h : MI m) : ∃ v m', fX9_can x y z m = some (v, m') ∧ MI m' ∧ Fw m m' := by
  have h0 := h
  obtain ⟨r, al, g, f, s⟩ := h
  have no : ∃ v m', bX9_can_31 m = some (v, m') ∧ MI m' ∧ Fw m m' := by
    unfold bX9_can_31
    exact bd_s (MF_1 h0)
  have no3 : ∃ v m', bX9_can_64 m = some (v, m') ∧ MI m' ∧ Fw m m' := by
    unfold bX9_can_64
    exact bd_s (MF_3 h0)
  have yes : ∀ q, ∃ v m', bX9_can_103 q m = some (v, m') ∧ MI m' ∧ Fw m m' := fun q => by
    unfold bX9_can_103
    split
    · exact ⟨_, _, rfl, h0, Fw_refl m⟩
    · exact ⟨_, _, rfl, h0, Fw_refl m⟩
  unfold fX9_can
  split
  · exact no
  · rcases is_any s y with e | ⟨a, ha, ea, ala, e⟩
    · rw [e, Option.bind_some, if_pos rfl]
      exact no
    · rw [e, Option.bind_some, if_neg (by decide)]
      by_cases x2 : (2 : Int32) ≤ x
      · rw [if_pos x2]
        unfold bX9_can_38
        by_cases e2 : x = 2
        · subst ea
          rw [if_pos e2, sd_o ha, Option.bind_some]
          split
          · unfold bX9_can_71
            rw [if_neg (by rw [e2]; decide), if_neg (by rw [e2]; decide), canVanish_s ha s g ala, Option.bind_some]
            exact yes _
          · exact no3
        · rename_i hw
          exfalso
          unfold fX9_within at hw
          by_cases q0 : x < 0
          · rw [if_pos q0] at hw; exact hw rfl
          · rw [if_neg q0] at hw
            by_cases q2 : (2 : Int32) < x
            · rw [if_pos q2] at hw; exact hw rfl
            · exact e2 (Int32.le_antisymm (Int32.not_lt.mp q2) x2)
      · rw [if_neg x2]
        rcases two_any s y z with e3 | ⟨a', b, ha', hb, hne, ex, ey, ala', alb, e3⟩
        · rw [e3, Option.bind_some, if_pos rfl]
          exact no
        · rw [e3, Option.bind_some, if_neg (by decide)]
          subst ex ey
          unfold bX9_can_38
          rw [if_neg (fun w => x2 (by rw [w]; decide))]
          rcases wall_any s ha' hb ala' with ⟨hw, e4⟩ | ⟨hw, e4⟩
          · rw [e4, Option.bind_some, if_neg (by decide)]
            unfold bX9_can_71
            split
            · obtain ⟨v, e5, _⟩ := canTurn_s ha' hb s g ala' alb hw
              rw [e5, Option.bind_some]
              exact yes _
            · split
              · rw [canBurst_s ha' hb s g ala' alb hw, Option.bind_some]
                exact yes _
              · rw [canVanish_s ha' s g ala', Option.bind_some]
                exact yes _
          · rw [e4, Option.bind_some, if_pos rfl]
            exact no3

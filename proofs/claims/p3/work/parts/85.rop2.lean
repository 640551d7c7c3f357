/-! ACTS ON BUBBLES AND WALLS, ON -/
theorem win {l h : Nat} (hl : l < 100000) (hh : h < 100000) (x : Int32) : fX9_within x (o32 l) (o32 h) = 0 ∨ ∃ n, l ≤ n ∧ n ≤ h ∧ x = o32 n ∧ fX9_within x (o32 l) (o32 h) = 1 := by
  by_cases e : fX9_within x (o32 l) (o32 h) = 0
  · exact .inl e
  · obtain ⟨n, h1, h2, h3⟩ := within_lh hl hh e
    refine .inr ⟨n, h1, h2, h3, ?_⟩
    unfold fX9_within at e ⊢
    split
    · rename_i c; rw [if_pos c] at e; exact absurd rfl e
    · rename_i c
      rw [if_neg c] at e
      split
      · rename_i c2; rw [if_pos c2] at e; exact absurd rfl e
      · rfl
theorem one0 : ¬ (1 : Int32) = 0 := by decide
theorem ttt0 : ¬ i01 (true && (true && true)) = 0 := by decide
theorem wi_eq (x a b : Int32) : fX8_within x a b = fX9_within x a b := rfl
theorem beside_o {mc mr : Mem} (h : RLx mc mr) (x y : Int32) : Sm (fX8_beside x y mc) (fX9_beside x y mr) := by
  have hh := h
  obtain ⟨⟨r, al, f, q, w⟩, _⟩ := h
  have G := WS_1 w
  unfold fX8_beside fX9_beside bX8_beside_14
  rcases twob w x y with ⟨a1, a2⟩ | ⟨a, b, a1, a2, a3, a4, a5, a6, a7, a8, a9⟩ | ⟨a, a1, a2, a3, a4, a5, a6⟩
  · rw [a1, a2, Option.bind_some, if_pos rfl, if_pos rfl]
    split <;> exact err1 hh
  · rw [a8, a9, a4, a5, if_neg (by rw [o_eq (by omega) (by omega)]; exact a3), if_neg (by decide), Option.bind_some, if_neg (by decide), two_m (WS_3 w) a1 a2 a6, isWall_c (WS_4 w) a1 a2, a6, a7, Option.bind_some, Option.bind_some]
    by_cases hm : b ∈ r a
    · rw [if_pos hm, decide_eq_true hm, if_neg (by decide), if_neg (by decide)]
      exact ⟨_, _, _, rfl, rfl, hh⟩
    · rw [if_neg hm, decide_eq_false hm, if_pos (by decide), if_pos rfl]
      exact ⟨_, _, _, rfl, rfl, hh⟩
  · rw [if_pos (by rw [a2, a3]), a6, Option.bind_some, if_pos rfl]
    exact err1 hh
theorem end_o {mc mr : Mem} (h : RLx mc mr) (x y z : Int32) : Df (fX8_end x y z mc) (fX9_end x y z mr) := by
  have hh := h
  obtain ⟨⟨r, al, f, q, w⟩, _⟩ := h
  have G := WS_1 w
  unfold fX8_end fX9_end bX8_end_18 bX9_end_18
  rcases twob w x y with ⟨a1, a2⟩ | ⟨a, b, a1, a2, a3, a4, a5, a6, a7, a8, a9⟩ | ⟨a, a1, a2, a3, a4, a5, a6⟩
  · rw [a1, a2, Option.bind_some, if_pos rfl, if_pos rfl]
    exact Sm_Df (err1 hh)
  · rw [a8, a9, a4, a5, if_neg one0, Option.bind_some, if_neg one0, wi_eq]
    by_cases c : fX9_within z 0 1 = 0
    · rw [if_pos c, if_pos c]
      exact Sm_Df (err1 hh)
    · rw [if_neg c, if_neg c, two_m (WS_3 w) a1 a2 a6, isWall_c (WS_4 w) a1 a2, a6, a7, Option.bind_some, Option.bind_some]
      by_cases hm : b ∈ r a
      · have R := ((WS_3 w) a a1).2 a6
        have g := CS_g (WS_4 w) a1 a6
        rw [if_pos hm, decide_eq_true hm, if_neg ttt0, if_neg one0, ahead_c a1 (by omega) g hm, behind_c a1 (by omega) g hm, ahead_s a1 (by omega) R hm, behind_s a1 (by omega) R hm, Option.bind_some, Option.bind_some, Option.bind_some, Option.bind_some]
        by_cases z0 : z = 0
        · rw [if_pos z0, if_pos z0]
          exact ⟨_, _, _, _, rfl, rfl, hh⟩
        · rw [if_neg z0, if_neg z0]
          exact ⟨_, _, _, _, rfl, rfl, hh⟩
      · rw [if_neg hm, decide_eq_false hm, if_pos (by decide), if_pos rfl]
        exact Sm_Df (err3 hh)
  · rw [a5, a6, if_neg one0, Option.bind_some, if_pos rfl, wi_eq]
    by_cases c : fX9_within z 0 1 = 0
    · rw [if_pos c]
      exact Sm_Df (err1 hh)
    · rw [if_neg c, a2, a3, isWall_c (WS_4 w) a1 a1, decide_eq_false (noself G a1 a4), Bool.and_false, Bool.and_false, Option.bind_some, if_pos (by decide)]
      exact err31 hh
theorem passes_o {mc mr : Mem} (h : RLx mc mr) (x y : Int32) : Df (fX8_passes x y mc) (fX9_passes x y mr) := by
  have hh := h
  obtain ⟨⟨r, al, f, q, w⟩, _⟩ := h
  have G := WS_1 w
  unfold fX8_passes fX9_passes
  rcases twob w x y with ⟨a1, a2⟩ | ⟨a, b, a1, a2, a3, a4, a5, a6, a7, a8, a9⟩ | ⟨a, a1, a2, a3, a4, a5, a6⟩
  · rw [a1, a2, Option.bind_some, if_pos rfl, if_pos rfl]
    exact Sm_Df (err1 hh)
  · rw [a8, a9, a4, a5, if_neg one0, Option.bind_some, if_neg one0, two_m (WS_3 w) a1 a2 a6, isWall_c (WS_4 w) a1 a2, a6, a7, Option.bind_some, Option.bind_some]
    by_cases hm : b ∈ r a
    · rw [if_pos hm, decide_eq_true hm, if_neg ttt0, if_neg one0]
      have fin : ∀ m1 mr1, NF 0 mc m1 → F146 mr mr1 → RLx m1 mr1 := fun m1 mr1 n1 n2 => RL_k hh ⟨r, al, f, q, WS_NF w n1 n2⟩ (CK_CF (NF_CF n1)) (MK_MF (F146_MF n2))
      by_cases c : o32 b ≤ o32 a
      · obtain ⟨v, m1, mr1, e1, e2, n1, n2⟩ := passing_R w a2 a1 a7 a6
        rw [if_pos c, if_pos c, e1, e2, Option.bind_some, Option.bind_some]
        exact ⟨_, _, _, _, rfl, rfl, fin _ _ n1 n2⟩
      · obtain ⟨v, m1, mr1, e1, e2, n1, n2⟩ := passing_R w a1 a2 a6 a7
        rw [if_neg c, if_neg c, e1, e2, Option.bind_some, Option.bind_some]
        exact ⟨_, _, _, _, rfl, rfl, fin _ _ n1 n2⟩
    · rw [if_neg hm, decide_eq_false hm, if_pos (by decide), if_pos rfl]
      exact Sm_Df (err3 hh)
  · rw [a5, a6, if_neg one0, Option.bind_some, if_pos rfl, a2, a3, isWall_c (WS_4 w) a1 a1, decide_eq_false (noself G a1 a4), Bool.and_false, Bool.and_false, Option.bind_some, if_pos (by decide)]
    exact err31 hh
theorem can_o {mc mr : Mem} (h : RLx mc mr) (x y z : Int32) : Df (fX8_can x y z mc) (fX9_can x y z mr) := by
  have hh := h
  obtain ⟨⟨r, al, f, q, w⟩, _⟩ := h
  have G := WS_1 w
  have C := WS_4 w
  have S := WS_3 w
  unfold fX8_can fX9_can bX8_can_42 bX9_can_31 bX8_can_48 bX9_can_38 bX8_can_89 bX9_can_71 bX9_can_64 bX9_can_103
  rw [wi_eq]
  rcases win (l := 0) (h := 2) (by omega) (by omega) x with c | ⟨n, _, n2, n3, n4⟩
  · rw [if_pos (show fX9_within x 0 2 = 0 from c), if_pos (show fX9_within x 0 2 = 0 from c)]
    exact Sm_Df (err1 hh)
  · have c : ¬ fX9_within x 0 2 = 0 := by rw [show fX9_within x 0 2 = 1 from n4]; decide
    rw [if_neg c, if_neg c]
    have two : (2 : Int32) = o32 2 := rfl
    by_cases x2 : n = 2
    · subst x2
      have e2 : x = 2 := n3
      have le2 : (2 : Int32) ≤ x := by rw [e2]; decide
      have x0 : ¬ x = 0 := by rw [e2]; decide
      have x1 : ¬ x = 1 := by rw [e2]; decide
      rcases isb w y with ⟨a1, a2⟩ | ⟨a, a1, a2, a3, a4, a5⟩
      · rw [if_pos a1, a2, Option.bind_some, if_pos rfl]
        exact Sm_Df (err1 hh)
      · have la := (CS_g C a1 a3).1
        rw [a4, a5, if_neg (show ¬ (1 : Int32) = 0 by decide), Option.bind_some, if_neg (show ¬ (1 : Int32) = 0 by decide), if_pos e2, if_pos e2, if_pos le2, if_pos e2, a2, if_pos (o_inb a1 (by omega)), sd_c w a1 a3, sd_m w a1 a3, Option.bind_some]
        by_cases c3 : (r a).length = 3
        · have ie : o32 (r a).length = 3 := by rw [c3]; rfl
          rw [if_pos ie, if_pos ie, if_neg (show ¬ (1 : Int32) = 0 by decide), if_neg x0, if_neg x0, if_neg x1, if_neg x1, canVanish_c C G a1 a3, canVanish_s a1 S G a3, decide_eq_true c3, Bool.true_and, Option.bind_some, Option.bind_some]
          split
          · exact ⟨_, _, _, _, rfl, rfl, hh⟩
          · exact ⟨_, _, _, _, rfl, rfl, hh⟩
        · have ie : ¬ o32 (r a).length = 3 := by rw [show (3 : Int32) = o32 3 from rfl, o_eq (by omega) (by omega)]; exact c3
          rw [if_neg ie, if_neg ie, if_pos rfl]
          exact Sm_Df (err3 hh)
    · have nx2 : ¬ x = 2 := by rw [n3, two, o_eq (by omega) (by omega)]; exact x2
      have nle2 : ¬ (2 : Int32) ≤ x := by rw [n3, two, o_le (by omega) (by omega)]; omega
      have i1 : ¬ (1 : Int32) = 0 := by decide
      rw [if_neg nx2, if_neg nx2, if_neg nle2, if_neg nx2]
      rcases isb w y with ⟨a1, a2⟩ | ⟨a, a1, a2, a3, a4, a5⟩
      · rw [if_pos a1, a2, Option.bind_some, if_pos rfl]
        exact Sm_Df (err1 hh)
      · rcases isb w z with ⟨b1, b2⟩ | ⟨b, b1, b2, b3, b4, b5⟩
        · have t0 : fX9_areTwo y z mr = some 0 := by
            unfold fX9_areTwo
            rw [a5, Option.bind_some, if_neg i1, b2]
            rfl
          rw [a4, a5, if_neg i1, Option.bind_some, if_neg i1, if_pos b1, t0, Option.bind_some, if_pos rfl]
          exact Sm_Df (err1 hh)
        · rw [a4, a5, if_neg i1, Option.bind_some, if_neg i1, b4, if_neg i1]
          by_cases e : a = b
          · subst e
            have t0 : fX9_areTwo y z mr = some 0 := by
              unfold fX9_areTwo
              rw [a5, Option.bind_some, if_neg i1, b5, Option.bind_some, if_neg i1, if_pos (by rw [a2, b2])]
            rw [t0, Option.bind_some, if_pos rfl, a2, b2, isWall_c C a1 a1, decide_eq_false (noself G a1 a3), Bool.and_false, Bool.and_false, Option.bind_some, if_pos (show i01 false = 0 from rfl)]
            exact err31 hh
          · have t1 : fX9_areTwo y z mr = some 1 := by
              unfold fX9_areTwo
              rw [a5, Option.bind_some, if_neg i1, b5, Option.bind_some, if_neg i1, if_neg (by rw [a2, b2, o_eq (by omega) (by omega)]; exact e)]
            rw [t1, Option.bind_some, if_neg i1, a2, b2, isWall_c C a1 b1, two_m S a1 b1 a3, a3, b3, Option.bind_some, Option.bind_some]
            by_cases hm : b ∈ r a
            · obtain ⟨v, v1, v2, v3⟩ := canTurn_R w a1 b1 a3 b3 hm
              rw [decide_eq_true hm, if_pos hm, if_neg (show ¬ i01 (true && (true && true)) = 0 by decide), if_neg i1, v1, v2, canBurst_c C G a1 b1 a3 b3 hm, canBurst_s a1 b1 S G a3 b3 hm, Option.bind_some, Option.bind_some, Option.bind_some, Option.bind_some]
              by_cases x0 : x = 0
              · rw [if_pos x0, if_pos x0]
                split
                · exact ⟨_, _, _, _, rfl, rfl, hh⟩
                · exact ⟨_, _, _, _, rfl, rfl, hh⟩
              · have x1 : x = 1 := by
                  have : n = 1 := by
                    have : ¬ n = 0 := fun z => x0 (by rw [n3, z]; rfl)
                    omega
                  rw [n3, this]
                  rfl
                rw [if_neg x0, if_neg x0, if_pos x1, if_pos x1]
                split
                · exact ⟨_, _, _, _, rfl, rfl, hh⟩
                · exact ⟨_, _, _, _, rfl, rfl, hh⟩
            · rw [decide_eq_false hm, if_neg hm, if_pos (show i01 (true && (true && false)) = 0 by decide), if_pos rfl]
              exact Sm_Df (err3 hh)

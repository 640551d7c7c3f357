/-! COLOUR: BOTH ANSWER ALIKE -/
theorem colour_s {mc mr : Mem} (h : RLx mc mr) (x y : Int32) : Sm (fX8_colour x y mc) (fX9_colour x y mr) := by
  have hh := h
  obtain ⟨⟨r, al, f, q, w⟩, _⟩ := h
  have hg := WS_1 w
  unfold fX8_colour fX9_colour bX8_colour_23 bX9_colour_17
  rw [wi_eq]
  rcases win (l := 1) (h := 4) (by omega) (by omega) x with z | ⟨k, k1, k2, rfl, k4⟩
  · rw [if_pos (show fX9_within x 1 4 = 0 from z), if_pos (show fX9_within x 1 4 = 0 from z)]
    exact err1 hh
  have z : ¬ fX9_within (o32 k) 1 4 = 0 := by rw [show fX9_within (o32 k) 1 4 = 1 from k4]; exact one0
  rw [if_neg z, if_neg z]
  rcases isb w y with ⟨a1, a2⟩ | ⟨a, a1, a2, a3, a4, a5⟩
  · rw [if_pos a1, a2, Option.bind_some, if_pos rfl]
    exact err1 hh
  rw [a4, a5, if_neg one0, Option.bind_some, if_neg one0, a2]
  obtain ⟨m1, l1, l2, l3, l4⟩ := look_c (WS_4 w) hg
  obtain ⟨nM, u1, u2, u3⟩ := (WS_4 w).1
  have fl : ∃ m2, fJ7_fill_53178_4 124 0 m1 = some m2 ∧ (∀ c j, c ≠ 124 → m2 c j = m1 c j) ∧ ∀ j, j < 4 → m2 124 j = 0 := by
    unfold fJ7_fill_53178_4
    have key := lp_ix (body := lJ7_fill_53178_4_5 124 0 4) (fun i s => s.1 = o32 i ∧ (∀ c j, c ≠ 124 → s.2 c j = m1 c j) ∧ ∀ j, j < i → s.2 124 j = 0) (fun e => (∀ c j, c ≠ 124 → e c j = m1 c j) ∧ ∀ j, j < 4 → e 124 j = 0) 4 0 (0, m1) fu ⟨rfl, fun _ _ _ => rfl, fun j hj => absurd hj (by omega)⟩ (fun i s _ hi hI => ?_) (fun s hI => ?_) (lt_fu (by omega))
    · exact key
    · obtain ⟨i1, i2, i3⟩ := hI
      unfold lJ7_fill_53178_4_5
      have n4 : ¬ (4 : Int32) ≤ o32 i := by rw [show (4 : Int32) = o32 4 from rfl, o_le (by omega) (by omega)]; omega
      rw [i1, if_neg n4, if_pos (o_inb (show i < 4 by omega) (by omega)), o_s, o_tn (show i < 2147483648 by omega)]
      refine ⟨_, rfl, rfl, fun c j hc => by dsimp only; rw [mput_c _ _ _ hc]; exact i2 c j hc, fun j hj => ?_⟩
      dsimp only
      rw [mput_get]
      by_cases e : j = i
      · rw [if_pos ⟨rfl, e⟩]
      · rw [if_neg (fun z => e z.2)]
        exact i3 j (by omega)
    · obtain ⟨i1, i2, i3⟩ := hI
      unfold lJ7_fill_53178_4_5
      rw [i1, if_pos (show (4 : Int32) ≤ o32 (0 + 4) by decide)]
      exact ⟨_, rfl, i2, i3⟩
  obtain ⟨m2, f1, f2, f3⟩ := fl
  have mk0 : ∀ s, MKc al (fun _ => 0) 0 s = 0 := fun s => bits_eq (MKc_s al (fun _ => 0) 0 s).1 (by omega) fun x _ => by
    rw [(MKc_s al (fun _ => 0) 0 s).2, Nat.zero_testBit, decide_eq_false (show ¬ x < 0 by omega), Bool.false_and, Bool.and_false]
  obtain ⟨v, m3, p1, p2, p3⟩ := paint_G (al := al) (B := NB r al) (nM := nM) (n := k) u1 u3 (fun a _ => (NB_s r al a).1) k2 18 16 0 0 m2 (fun _ => 0) (by omega) (by omega) (by omega) (by rw [f2 121 3 (by omega), l3, u2]) (fun a ha => by rw [f2 123 a (by omega)]; exact l4 a ha) (fun b hb => absurd hb (by omega)) (fun s hs => by rw [f3 s hs, mk0]; rfl)
  have p1 : nX3_paintFrom 18 0 (o32 k) 0 m2 = some (v, m3) := p1
  obtain ⟨u, m4, c1, c2, c3⟩ := coloured_F (n := k) (WS_3 w) (by omega) 18 16 0 mr (fun _ => 0) (by omega) (by omega) (fun _ _ _ => rfl) (fun b hb => absurd hb (by omega))
  have c1 : nX9_coloured 18 0 (o32 k) mr = some (u, m4) := c1
  have GF := srG_F (al := al) (A := ANb r al) (n := k) 16 (by omega) 0 (fun _ => 0) (fun b hb => absurd hb (by omega))
  have GF : srG al (fun a b => (NB r al a).testBit b) k 16 0 (fun _ => 0) = srF al (ANb r al) k 16 (fun _ => 0) := GF
  rw [GF] at p3
  have RL : ∀ m5 m6 : Mem, (∀ c j, c ≠ 136 → m5 c j = m3 c j) → (∀ c j, c ≠ 141 → m6 c j = m4 c j) → RLx m5 m6 := fun m5 m6 a8 b8 => RL_any hh (fun c j hc => by rw [a8 c j (by omega), p2 c j (by omega) (by omega), f2 c j (by omega)]; exact l2 c j (by omega) (by omega)) (fun c j hc => by rw [b8 c j (by omega)]; exact c2 c j (by omega))
  unfold fX3_canPaint
  rcases p3 with ⟨g1, g2, _⟩ | ⟨c', g1, g2, g3⟩
  · rcases c3 with ⟨h1, h2, _⟩ | ⟨c'', h1, h2, h3⟩
    · have e1 : v = 0 := g2
      have e2 : u = 0 := h2
      rw [l1, Option.bind_some, f1, Option.bind_some, p1, Option.bind_some, if_pos (show v = 0 ∨ v = 1 from .inl e1), Option.bind_some, c1, Option.bind_some]
      dsimp only
      rw [if_pos e1, if_pos e2, show fX8_no 2 m3 = _ from no_c (i := 2) (by omega), fnd_m (i := 2) (by omega) (by decide), show (-1000000 : Int32) - o32 2 = -1000002 by decide]
      exact ⟨_, _, _, rfl, rfl, RL _ _ (fun c j hc => by dsimp only; rw [mput_c _ _ _ hc]) (fun c j hc => by dsimp only; rw [mput_c _ _ _ hc])⟩
    · rw [g1] at h1
      exact absurd h1.symm (Option.some_ne_none _)
  · rcases c3 with ⟨h1, h2, _⟩ | ⟨c'', h1, h2, h3⟩
    · rw [g1] at h1
      exact absurd h1 (Option.some_ne_none _)
    · have ec : c' = c'' := by
        rw [g1] at h1
        exact Option.some.inj h1
      have e1 : ¬ v = 0 := by rw [g2]; decide
      have e2 : ¬ u = 0 := by rw [h2]; decide
      rw [l1, Option.bind_some, f1, Option.bind_some, p1, Option.bind_some, if_pos (show v = 0 ∨ v = 1 from .inr g2), Option.bind_some, c1, Option.bind_some]
      dsimp only
      rw [if_neg e1, if_neg e2, if_pos (o_inb (show a < 16 by omega) (by omega)), if_pos (o_inb (show a < 16 by omega) (by omega)), o_tn (show a < 2147483648 by omega), g3 a a1 a3, h3 a a1 a3, ec]
      exact ⟨_, m3, m4, rfl, rfl, RL _ _ (fun _ _ _ => rfl) (fun _ _ _ => rfl)⟩

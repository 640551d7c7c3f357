/-! UNTELL, FIRST, COUNT -/
theorem untell_o {mc mr : Mem} (h : RLx mc mr) (x : Int32) : Sm (fX8_untell x mc) (fX9_untell x mr) := by
  have hh := h
  obtain ⟨⟨r, al, f, q, w⟩, _⟩ := h
  unfold fX8_untell fX9_untell bX8_untell_37
  rw [wi_eq]
  rcases win (l := 0) (h := 2) (by omega) (by omega) x with z | ⟨u, _, u2, u3, u4⟩
  · rw [if_pos (show fX9_within x 0 2 = 0 from z), if_pos (show fX9_within x 0 2 = 0 from z)]
    exact err1 hh
  · have z : ¬ fX9_within x 0 2 = 0 := by rw [show fX9_within x 0 2 = 1 from u4]; exact one0
    have T := WS_6 w u (by omega)
    have l60 := T.1
    rw [if_neg z, if_neg z, u3, if_pos (o_inb (by omega) (by omega)), o_tn (by omega), told_c T, show (896 : Int32) + 62 * o32 u = o32 (896 + 62 * u) by
      show o32 896 + o32 62 * o32 u = _
      rw [o_mul, o_add], comes_op (by omega), Option.bind_some, T.2.2.2.1]
    have W2 : WS 0 (mput mc (cw 0 (27 + 3 * u)) 0 0) (mput mr 138 (896 + 62 * u) 0 138) r al f (fun v => if v = u then [] else q v) := by
      refine WS_txt w (by omega) (fun o j ho h1 h2 => by rw [mput_c _ _ _ (cw_ne h1)]) (fun j hj => by rw [mput_get, if_neg (by omega)]) ⟨by decide, fun t ht => (List.not_mem_nil ht).elim, fun z => absurd rfl z, ?_, ?_, fun i hi => absurd hi (by simp)⟩
      · rw [mput_at]; rfl
      · rw [mput_at]; rfl
    have R2 : RLx (mput mc (cw 0 (27 + 3 * u)) 0 0) (mput mr 138 (896 + 62 * u) 0) := RL_k hh ⟨r, al, f, _, W2⟩ (CK_CF (CF_put (by omega) (by omega))) (MK_MF (MF_put (by omega)))
    by_cases e : q u = []
    · rw [if_pos e, if_pos rfl, e]
      exact ⟨_, _, _, rfl, rfl, R2⟩
    · have : 0 < (q u).length := List.length_pos_iff.mpr e
      dsimp only
      rw [if_neg e, if_neg one0, if_neg (by rw [show (0 : Int32) = o32 0 from rfl, o_le (by omega) (by omega)]; omega)]
      exact ⟨_, _, _, rfl, rfl, R2⟩
theorem neg_le {a b : Nat} (ha : a < 2147483648) (hb : b < 2147483648) : ((-1 : Int32) * o32 a ≤ (-1) * o32 b) ↔ o32 b ≤ o32 a := by
  have e : ∀ n, n < 2147483648 → ((-1 : Int32) * o32 n).toInt = -(n : Int) := fun n hn => by
    rw [Int32.toInt_mul, o_ti hn, show (-1 : Int32).toInt = -1 by decide, Int.bmod_eq_of_le (by omega) (by omega)]
    omega
  rw [Int32.le_iff_toInt_le, Int32.le_iff_toInt_le, e a ha, e b hb, o_ti ha, o_ti hb]
  omega
theorem one_mul32 (x : Int32) : 1 * x = x := Int32.one_mul x
theorem first_lp {mc mr : Mem} (hh : RLx mc mr) {r : Nat → List Nat} {al : Nat → Bool} {f : Nat → Nat → Nat} {q : Nat → List Nat} (w : WS 0 mc (mr 138) r al f q) {g : Nat → Nat} {sg : Int32} {z3 : Int32} (y0 : Nat) (hy : y0 < 50) (hz : (z3 = 1 ∧ sg = 1) ∨ (z3 = 0 ∧ sg = -1)) (hg : ∀ b, b < 16 → al b = true → g b < 2147483648 ∧ mc (cw 0 7) (o32 b).toNatClampNeg = o32 (g b) ∧ mr 138 (12 + 50 * b + y0) = o32 (g b)) : Sm (lp (lX8_first_62 z3 mc) fu (-1, 0)) (lp (lX9_first_45 (o32 y0) sg mr) fu (-1, 0)) := by
  apply Sm_of
  refine lp_two (bs := lX8_first_62 z3 mc) (bt := lX9_first_45 (o32 y0) sg mr) (fun i s t => s.2 = o32 i ∧ t.2 = o32 i ∧ s.1 = t.1 ∧ (s.1 = -1 ∨ ∃ b, b < 16 ∧ al b = true ∧ s.1 = o32 b)) (fun e g => e.1 = g.1 ∧ RLx e.2 g.2) 16 0 (-1, 0) (-1, 0) fu fu ⟨rfl, rfl, rfl, .inl rfl⟩ (fun i s t _ hi hJ => ?_) (fun s t hJ => ?_) (lt_fu (by omega)) (lt_fu (by omega))
  · obtain ⟨j1, j2, j3, j4⟩ := hJ
    have hi : i < 16 := by omega
    unfold lX8_first_62 lX9_first_45
    rw [← j3, j1, j2, if_neg (not_16 hi), if_neg (not_16 hi), has_c (WS_4 w) hi, is_s hi (WS_3 w), Option.bind_some, o_s]
    cases ai : al i with
    | false =>
      rw [if_pos (show i01 false = 0 from rfl), if_pos (show i01 false = 0 from rfl)]
      exact ⟨_, _, rfl, rfl, rfl, rfl, rfl, j4⟩
    | true =>
      rw [if_neg (show ¬ i01 true = 0 by decide), if_neg (show ¬ i01 true = 0 by decide)]
      rcases j4 with j4 | ⟨b, b1, b2, b3⟩
      · rw [j4, if_pos (show (-1 : Int32) < 0 by decide), if_pos (show (-1 : Int32) < 0 by decide)]
        exact ⟨_, _, rfl, rfl, rfl, rfl, rfl, .inr ⟨i, hi, ai, rfl⟩⟩
      · obtain ⟨g1, g2, g3⟩ := hg i hi ai
        obtain ⟨p1, p2, p3⟩ := hg b b1 b2
        rw [b3, if_neg (not_lt0 (by omega)), if_neg (not_lt0 (by omega)), of_o hi hy, of_o b1 hy, Option.bind_some, Option.bind_some, g2, p2, g3, p3]
        simp only [if_pos (o_inb hi (show i < 2147483648 by omega)), if_pos (o_inb b1 (show b < 2147483648 by omega))]
        rcases hz with ⟨hz, hs⟩ | ⟨hz, hs⟩
        · rw [hz, hs, if_neg one0, one_mul32, one_mul32]
          by_cases c : o32 (g i) ≤ o32 (g b)
          · rw [if_pos c]
            exact ⟨_, _, rfl, rfl, rfl, rfl, rfl, .inr ⟨b, b1, b2, rfl⟩⟩
          · rw [if_neg c]
            exact ⟨_, _, rfl, rfl, rfl, rfl, rfl, .inr ⟨i, hi, ai, rfl⟩⟩
        · rw [hz, hs, if_pos rfl]
          by_cases c : o32 (g b) ≤ o32 (g i)
          · rw [if_pos c, if_pos ((neg_le g1 p1).mpr c)]
            exact ⟨_, _, rfl, rfl, rfl, rfl, rfl, .inr ⟨b, b1, b2, rfl⟩⟩
          · rw [if_neg c, if_neg (fun q => c ((neg_le g1 p1).mp q))]
            exact ⟨_, _, rfl, rfl, rfl, rfl, rfl, .inr ⟨i, hi, ai, rfl⟩⟩
  · obtain ⟨j1, j2, j3, j4⟩ := hJ
    unfold lX8_first_62 lX9_first_45
    rw [← j3, j1, j2, if_pos (show (16 : Int32) ≤ o32 (0 + 16) by decide), if_pos (show (16 : Int32) ≤ o32 (0 + 16) by decide)]
    rcases j4 with j4 | ⟨b, b1, b2, b3⟩
    · obtain ⟨v, m1, mr1, e1, e2, e3⟩ := err2 hh
      rw [j4, if_neg (show ¬ (0 : Int32) ≤ -1 by decide), if_neg (show ¬ (0 : Int32) ≤ -1 by decide)]
      cases k1 : fX8_no 2 mc with
      | none => rw [k1] at e1; cases e1
      | some p1 =>
        cases k2 : fX9_finding (-1000002) mr with
        | none => rw [k2] at e2; cases e2
        | some p2 =>
          rw [k1] at e1
          rw [k2] at e2
          have q1 : (p1.1, p1.2) = (v, m1) := Option.some.inj e1
          have q2 : (p2.1, p2.2) = (v, mr1) := Option.some.inj e2
          refine ⟨_, _, rfl, rfl, ?_, ?_⟩
          · exact (congrArg Prod.fst q1).trans (congrArg Prod.fst q2).symm
          · rw [show p1.2 = m1 from congrArg Prod.snd q1, show p2.2 = mr1 from congrArg Prod.snd q2]
            exact e3
    · rw [b3, if_pos (o_ge0 (by omega)), if_pos (o_ge0 (by omega))]
      exact ⟨_, _, rfl, rfl, rfl, hh⟩
theorem firsta_lp {mc mr : Mem} (hh : RLx mc mr) {r : Nat → List Nat} {al : Nat → Bool} {f : Nat → Nat → Nat} {q : Nat → List Nat} (w : WS 0 mc (mr 138) r al f q) {g : Nat → Nat} {sg : Int32} {z3 : Int32} (y0 : Nat) (hy : y0 < 50) (hz : (z3 = 1 ∧ sg = 1) ∨ (z3 = 0 ∧ sg = -1)) (hg : ∀ b, b < 16 → al b = true → g b < 2147483648 ∧ mc (cw 0 4) (o32 b).toNatClampNeg = o32 (g b) ∧ mr 138 (12 + 50 * b + y0) = o32 (g b)) : Sm (lp (lX8_first_62a z3 mc) fu (-1, 0)) (lp (lX9_first_45 (o32 y0) sg mr) fu (-1, 0)) := by
  apply Sm_of
  refine lp_two (bs := lX8_first_62a z3 mc) (bt := lX9_first_45 (o32 y0) sg mr) (fun i s t => s.2 = o32 i ∧ t.2 = o32 i ∧ s.1 = t.1 ∧ (s.1 = -1 ∨ ∃ b, b < 16 ∧ al b = true ∧ s.1 = o32 b)) (fun e g => e.1 = g.1 ∧ RLx e.2 g.2) 16 0 (-1, 0) (-1, 0) fu fu ⟨rfl, rfl, rfl, .inl rfl⟩ (fun i s t _ hi hJ => ?_) (fun s t hJ => ?_) (lt_fu (by omega)) (lt_fu (by omega))
  · obtain ⟨j1, j2, j3, j4⟩ := hJ
    have hi : i < 16 := by omega
    unfold lX8_first_62a lX9_first_45
    rw [← j3, j1, j2, if_neg (not_16 hi), if_neg (not_16 hi), has_c (WS_4 w) hi, is_s hi (WS_3 w), Option.bind_some, o_s]
    cases ai : al i with
    | false =>
      rw [if_pos (show i01 false = 0 from rfl), if_pos (show i01 false = 0 from rfl)]
      exact ⟨_, _, rfl, rfl, rfl, rfl, rfl, j4⟩
    | true =>
      rw [if_neg (show ¬ i01 true = 0 by decide), if_neg (show ¬ i01 true = 0 by decide)]
      rcases j4 with j4 | ⟨b, b1, b2, b3⟩
      · rw [j4, if_pos (show (-1 : Int32) < 0 by decide), if_pos (show (-1 : Int32) < 0 by decide)]
        exact ⟨_, _, rfl, rfl, rfl, rfl, rfl, .inr ⟨i, hi, ai, rfl⟩⟩
      · obtain ⟨g1, g2, g3⟩ := hg i hi ai
        obtain ⟨p1, p2, p3⟩ := hg b b1 b2
        rw [b3, if_neg (not_lt0 (by omega)), if_neg (not_lt0 (by omega)), of_o hi hy, of_o b1 hy, Option.bind_some, Option.bind_some, g2, p2, g3, p3]
        simp only [if_pos (o_inb hi (show i < 2147483648 by omega)), if_pos (o_inb b1 (show b < 2147483648 by omega))]
        rcases hz with ⟨hz, hs⟩ | ⟨hz, hs⟩
        · rw [hz, hs, if_neg one0, one_mul32, one_mul32]
          by_cases c : o32 (g i) ≤ o32 (g b)
          · rw [if_pos c]
            exact ⟨_, _, rfl, rfl, rfl, rfl, rfl, .inr ⟨b, b1, b2, rfl⟩⟩
          · rw [if_neg c]
            exact ⟨_, _, rfl, rfl, rfl, rfl, rfl, .inr ⟨i, hi, ai, rfl⟩⟩
        · rw [hz, hs, if_pos rfl]
          by_cases c : o32 (g b) ≤ o32 (g i)
          · rw [if_pos c, if_pos ((neg_le g1 p1).mpr c)]
            exact ⟨_, _, rfl, rfl, rfl, rfl, rfl, .inr ⟨b, b1, b2, rfl⟩⟩
          · rw [if_neg c, if_neg (fun q => c ((neg_le g1 p1).mp q))]
            exact ⟨_, _, rfl, rfl, rfl, rfl, rfl, .inr ⟨i, hi, ai, rfl⟩⟩
  · obtain ⟨j1, j2, j3, j4⟩ := hJ
    unfold lX8_first_62a lX9_first_45
    rw [← j3, j1, j2, if_pos (show (16 : Int32) ≤ o32 (0 + 16) by decide), if_pos (show (16 : Int32) ≤ o32 (0 + 16) by decide)]
    rcases j4 with j4 | ⟨b, b1, b2, b3⟩
    · obtain ⟨v, m1, mr1, e1, e2, e3⟩ := err2 hh
      rw [j4, if_neg (show ¬ (0 : Int32) ≤ -1 by decide), if_neg (show ¬ (0 : Int32) ≤ -1 by decide)]
      cases k1 : fX8_no 2 mc with
      | none => rw [k1] at e1; cases e1
      | some p1 =>
        cases k2 : fX9_finding (-1000002) mr with
        | none => rw [k2] at e2; cases e2
        | some p2 =>
          rw [k1] at e1
          rw [k2] at e2
          have q1 : (p1.1, p1.2) = (v, m1) := Option.some.inj e1
          have q2 : (p2.1, p2.2) = (v, mr1) := Option.some.inj e2
          refine ⟨_, _, rfl, rfl, ?_, ?_⟩
          · exact (congrArg Prod.fst q1).trans (congrArg Prod.fst q2).symm
          · rw [show p1.2 = m1 from congrArg Prod.snd q1, show p2.2 = mr1 from congrArg Prod.snd q2]
            exact e3
    · rw [b3, if_pos (o_ge0 (by omega)), if_pos (o_ge0 (by omega))]
      exact ⟨_, _, rfl, rfl, rfl, hh⟩
theorem first_o {mc mr : Mem} (h : RLx mc mr) (x : Int32) : Sm (fX8_first x mc) (fX9_first x mr) := by
  have hh := h
  obtain ⟨⟨r, al, f, q, w⟩, _⟩ := h
  have gS : ∀ b, b < 16 → al b = true → (r b).length < 2147483648 ∧ mc (cw 0 7) (o32 b).toNatClampNeg = o32 (r b).length ∧ mr 138 (12 + 50 * b + 5) = o32 (r b).length := fun b hb ab => ⟨by have := (CS_g (WS_4 w) hb ab).1; omega, sd_c w hb ab, ((WS_3 w b hb).2 ab).2.1⟩
  have gG : ∀ b, b < 16 → al b = true → f b 2 < 2147483648 ∧ mc (cw 0 4) (o32 b).toNatClampNeg = o32 (f b 2) ∧ mr 138 (12 + 50 * b + 2) = o32 (f b 2) := fun b hb ab => by
    have k := WS_5 w b hb ab 2 (by omega) (by omega)
    have : f b 2 ≤ 99999 := k.2.2
    exact ⟨by omega, fd_c w hb ab 2 (by omega) (by omega), k.1⟩
  unfold fX8_first fX9_first bX8_first_43 bX8_first_43a bX9_first_26
  rw [wi_eq]
  by_cases z : fX9_within x 0 3 = 0
  · rw [if_pos z, if_pos z]
    exact err1 hh
  · rw [if_neg z, if_neg z]
    by_cases c2 : 2 ≤ x
    · rw [if_pos c2, if_pos c2]
      by_cases c : x - x / 2 * 2 = 0
      · rw [if_pos c, if_pos c]
        exact first_lp hh w 5 (by omega) (.inl ⟨rfl, rfl⟩) gS
      · rw [if_neg c, if_neg c]
        exact first_lp hh w 5 (by omega) (.inr ⟨rfl, rfl⟩) gS
    · rw [if_neg c2, if_neg c2]
      by_cases c : x - x / 2 * 2 = 0
      · rw [if_pos c, if_pos c]
        exact firsta_lp hh w 2 (by omega) (.inl ⟨rfl, rfl⟩) gG
      · rw [if_neg c, if_neg c]
        exact firsta_lp hh w 2 (by omega) (.inr ⟨rfl, rfl⟩) gG
theorem walls_c {mc : Mem} {r : Nat → List Nat} {al : Nat → Bool} (h : CS 0 mc r al) (hg : Gr r al) : ∃ v, fX0_walls 0 mc = some v := by
  unfold fX0_walls
  have bb : ∀ b, b < 16 → ∃ v, fX0_bitsBeside 0 (o32 b) mc = some v := fun b hb => by
    cases ab : al b with
    | true =>
      obtain ⟨n, _, e, _⟩ := bitsBeside_c h hg hb ab
      exact ⟨_, e⟩
    | false =>
      have g := h.2 b hb
      rw [if_neg (by rw [ab]; decide)] at g
      refine ⟨0, ?_⟩
      unfold fX0_bitsBeside
      rw [sidesOf_c hb g, Option.bind_some]
      obtain ⟨z, hz⟩ : ∃ z, fu = z + 1 := ⟨fu - 1, by have := lt_fu (n := 1) (by omega); omega⟩
      rw [hz]
      exact lp_e (by unfold lX0_bitsBeside_11; rfl)
  refine lp_ix (body := lX0_walls_4 0 mc) (fun i s => s.2 = o32 i) (fun _ => True) 16 0 (0, 0) fu rfl (fun i s _ hi hI => ?_) (fun s hI => ?_) (lt_fu (by omega)) |> fun ⟨e, e1, _⟩ => ⟨e, e1⟩
  · obtain ⟨v, hv⟩ := bb i (by omega)
    unfold lX0_walls_4
    rw [hI, if_neg (not_16 (by omega)), hv, o_s]
    exact ⟨_, rfl, rfl⟩
  · unfold lX0_walls_4
    rw [hI, if_pos (by decide)]
    exact ⟨_, rfl, trivial⟩
theorem walls_m {mr : Mem} {r : Nat → List Nat} {al : Nat → Bool} (h : RS mr r al) (hg : Gr r al) : ∃ v, lp (lX9_count_60 mr) fu (0, 0) = some (v, mr) := by
  refine lp_ix (body := lX9_count_60 mr) (fun i s => s.2 = o32 i) (fun e => e.2 = mr) 16 0 (0, 0) fu rfl (fun i s _ hi hI => ?_) (fun s hI => ?_) (lt_fu (by omega)) |> fun ⟨e, e1, e2⟩ => ⟨e.1, by rw [e1, ← e2]⟩
  · have hi : i < 16 := by omega
    unfold lX9_count_60
    rw [hI, if_neg (not_16 hi), is_s hi h, Option.bind_some, o_s]
    cases ai : al i with
    | false =>
      rw [if_pos (show i01 false = 0 from rfl)]
      exact ⟨_, rfl, rfl⟩
    | true =>
      obtain ⟨n, n1, n2, _⟩ := besides_s h hg hi ai
      rw [if_neg (show ¬ i01 true = 0 by decide), n2, Option.bind_some, bits_s n1]
      exact ⟨_, rfl, rfl⟩
  · unfold lX9_count_60
    rw [hI, if_pos (by decide)]
    exact ⟨_, rfl, rfl⟩
theorem count_o {mc mr : Mem} (h : RLx mc mr) (x : Int32) : Df (fX8_count x mc) (fX9_count x mr) := by
  have hh := h
  obtain ⟨⟨r, al, f, q, w⟩, _⟩ := h
  obtain ⟨v, hv⟩ := walls_c (WS_4 w) (WS_1 w)
  obtain ⟨v', hv'⟩ := walls_m (WS_3 w) (WS_1 w)
  obtain ⟨n, _, hn, _⟩ := there_s (WS_3 w)
  unfold fX8_count fX9_count
  rw [hv, hv', hn, many_s (WS_3 w)]
  by_cases x0 : x = 0
  · rw [if_pos x0, if_pos x0]
    exact ⟨_, _, _, _, rfl, rfl, hh⟩
  rw [if_neg x0, if_neg x0]
  by_cases x1 : x = 1
  · rw [if_pos x1, if_pos x1]
    exact ⟨_, _, _, _, rfl, rfl, hh⟩
  rw [if_neg x1, if_neg x1]
  by_cases x2 : x = 2
  · rw [if_pos x2, if_pos x2]
    exact ⟨_, _, _, _, rfl, rfl, hh⟩
  rw [if_neg x2, if_neg x2]
  by_cases x3 : x = 3
  · rw [if_pos x3, if_pos x3]
    exact ⟨_, _, _, _, rfl, rfl, hh⟩
  rw [if_neg x3, if_neg x3]
  by_cases x4 : x = 4
  · rw [if_pos x4, if_pos x4]
    exact ⟨_, _, _, _, rfl, rfl, hh⟩
  rw [if_neg x4, if_neg x4]
  by_cases x5 : x = 5
  · rw [if_pos x5, if_pos x5]
    exact ⟨_, _, _, _, rfl, rfl, hh⟩
  rw [if_neg x5, if_neg x5]
  by_cases x6 : x = 6
  · rw [if_pos x6, if_pos x6]
    exact ⟨_, _, _, _, rfl, rfl, hh⟩
  rw [if_neg x6, if_neg x6]
  by_cases x7 : x = 7
  · rw [if_pos x7, if_pos x7]
    exact ⟨_, _, _, _, rfl, rfl, hh⟩
  rw [if_neg x7, if_neg x7]
  exact Sm_Df (err1 hh)

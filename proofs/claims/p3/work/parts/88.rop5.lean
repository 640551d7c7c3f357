/-! RULES, TICKS, A NEW FOAM -/
theorem WS_scal {k jc jm : Nat} {v : Int32} {m mr : Mem} {r : Nat → List Nat} {al : Nat → Bool} {f : Nat → Nat → Nat} {q : Nat → List Nat} (h : WS k m (mr 138) r al f q) (h1 : 6 ≤ jc) (h2 : jm ≤ 10) (h3 : jm ≠ 1) (h4 : jm ≠ 2) (hs : SC k (mput m (cw k 1) jc v) (mput mr 138 jm v 138)) : WS k (mput m (cw k 1) jc v) (mput mr 138 jm v 138) r al f q := by
  obtain ⟨a1, a2, a3, a4, a5, a6, a7, a8⟩ := h
  have ew : ∀ z, mput mr 138 jm v 138 z = if z = jm then v else mr 138 z := fun z => by
    rw [mput_get]
    simp only [true_and]
  refine ⟨a1, a2, RS_w a3 (fun b' hb' g hg => by rw [ew, if_neg (by omega)]), CS_same a4 (fun c z hc => ?_), FR_same a5 (fun o z h1 h2 => by rw [mput_c _ _ _ (cw_ne (by omega))]) (fun z h1 h2 => by rw [ew, if_neg (by omega)]), fun u hu => TR_same hu (a6 u hu) (fun o z ho => by rw [mput_c _ _ _ (cw_ne (by omega))]) (fun z hz => by rw [ew, if_neg (by omega)]), hs, TP_same a8 (fun o z ho => by rw [mput_get, if_neg (fun q => by have := cw_inj q.1; omega)]) (fun z hz => by rw [ew, if_neg (by omega)])⟩
  rcases hc with hc | hc | ⟨x, hx, hc⟩
  · rw [hc.1, mput_c _ _ _ (cw_ne (by omega))]
  · rw [hc, mput_c _ _ _ (cw_ne (by omega))]
  · rw [hc, mput_c _ _ _ (cw_ne (by omega))]
theorem SC_put {k jc jm : Nat} {v : Int32} {m mr : Mem} (h : SC k m (mr 138)) (hj : (jc = 6 ∧ jm = 4 ∧ ∃ n, n ≤ 99 ∧ v = o32 n) ∨ (jc = 7 ∧ jm = 5 ∧ ∃ n, n ≤ 999 ∧ v = o32 n) ∨ (jc = 8 ∧ jm = 6 ∧ ∃ n, n < 100 ∧ ¬ n % 10 = 0 ∧ v = o32 n)) : SC k (mput m (cw k 1) jc v) (mput mr 138 jm v 138) := by
  have ew : ∀ z, mput mr 138 jm v 138 z = if z = jm then v else mr 138 z := fun z => by
    rw [mput_get]
    simp only [true_and]
  have c1 : ∀ j, mput m (cw k 1) jc v (cw k 1) j = if j = jc then v else m (cw k 1) j := fun j => by
    rw [mput_get]
    simp only [true_and]
  have c2 : ∀ j, mput m (cw k 1) jc v (cw k 2) j = m (cw k 2) j := fun j => by rw [mput_c _ _ _ (cw_ne (by omega))]
  obtain ⟨s1, s2, s3, s4, s5, s6, s7, s8, s9⟩ := h
  unfold SC
  simp only [ew, c1, c2]
  rcases hj with ⟨rfl, rfl, n, n1, rfl⟩ | ⟨rfl, rfl, n, n1, rfl⟩ | ⟨rfl, rfl, n, n1, n2, rfl⟩
  · exact ⟨s1, s2, s3, s4, ⟨n, n1, rfl, rfl⟩, s6, s7, s8, s9⟩
  · exact ⟨s1, s2, s3, s4, s5, ⟨n, n1, rfl, rfl⟩, s7, s8, s9⟩
  · exact ⟨s1, s2, s3, s4, s5, s6, ⟨n, n1, n2, rfl, rfl⟩, s8, s9⟩
theorem rule_o {mc mr : Mem} (h : RLx mc mr) (x y : Int32) : Sm (fX8_rule x y mc) (fX9_rule x y mr) := by
  have hh := h
  obtain ⟨⟨r, al, f, q, w⟩, _⟩ := h
  have S := WS_7 w
  have set : ∀ (jc jm : Nat) (v : Int32), ((jc = 6 ∧ jm = 4 ∧ ∃ n, n ≤ 99 ∧ v = o32 n) ∨ (jc = 7 ∧ jm = 5 ∧ ∃ n, n ≤ 999 ∧ v = o32 n) ∨ (jc = 8 ∧ jm = 6 ∧ ∃ n, n < 100 ∧ ¬ n % 10 = 0 ∧ v = o32 n)) → RLx (mput mc (cw 0 1) jc v) (mput mr 138 jm v) := fun jc jm v hj => RL_k hh ⟨r, al, f, q, WS_scal w (by omega) (by omega) (by omega) (by omega) (SC_put S hj)⟩ (CK_CF (CF_put (by omega) (by omega))) (MK_MF (MF_put (by omega)))
  unfold fX8_rule fX9_rule bX8_rule_114 bX9_rule_57
  rw [wi_eq, wi_eq, wi_eq, if_pos rfl, if_neg one0]
  by_cases x0 : x = 0
  · rw [if_pos x0, if_pos x0, x0]
    rcases win (l := 0) (h := 99) (by omega) (by omega) y with z | ⟨n, _, n2, n3, n4⟩
    · rw [if_pos (show fX9_within y 0 99 = 0 from z), if_pos (show fX9_within y 0 99 = 0 from z)]
      exact err1 hh
    · have z : ¬ fX9_within y 0 99 = 0 := by rw [show fX9_within y 0 99 = 1 from n4]; exact one0
      rw [if_neg z, if_neg z, show fX9_comes (4 + 0) y mr = _ from comes_op (j := 4) (by omega), rate_eq S]
      exact ⟨_, _, _, rfl, rfl, set 6 4 y (.inl ⟨rfl, rfl, n, n2, n3⟩)⟩
  · rw [if_neg x0, if_neg x0]
    by_cases x1 : x = 1
    · rw [if_pos x1, if_pos x1, x1]
      rcases win (l := 0) (h := 999) (by omega) (by omega) y with z | ⟨n, _, n2, n3, n4⟩
      · rw [if_pos (show fX9_within y 0 999 = 0 from z), if_pos (show fX9_within y 0 999 = 0 from z)]
        exact err1 hh
      · have z : ¬ fX9_within y 0 999 = 0 := by rw [show fX9_within y 0 999 = 1 from n4]; exact one0
        rw [if_neg z, if_neg z, show fX9_comes (4 + 1) y mr = _ from comes_op (j := 5) (by omega), dryn_eq S]
        exact ⟨_, _, _, rfl, rfl, set 7 5 y (.inr (.inl ⟨rfl, rfl, n, n2, n3⟩))⟩
    · rw [if_neg x1, if_neg x1]
      by_cases x2 : x = 2
      · rw [if_pos x2, if_pos x2, x2]
        rcases win (l := 1) (h := 99) (by omega) (by omega) y with z | ⟨n, n1, n2, n3, n4⟩
        · rw [if_pos (show fX9_within y 1 99 = 0 from z), if_pos (show fX9_within y 1 99 = 0 from z)]
          exact err1 hh
        · have z : ¬ fX9_within y 1 99 = 0 := by rw [show fX9_within y 1 99 = 1 from n4]; exact one0
          have e : y - y / 10 * 10 = o32 (n % 10) := by rw [n3]; exact o_rem (b := 10) (by omega) (by omega) (by omega)
          rw [if_neg z, if_neg z, e]
          by_cases c : n % 10 = 0
          · rw [if_pos (by rw [c]; rfl), if_pos (by rw [c]; decide)]
            exact err1 hh
          · obtain ⟨p, p1, p2, p3, p4⟩ := S.2.2.2.2.2.2.1
            rw [if_neg (by rw [show (0 : Int32) = o32 0 from rfl, o_eq (by omega) (by omega)]; exact c), if_neg (by rw [show (0 : Int32) = o32 0 from rfl, o_le (by omega) (by omega)]; omega), show fX9_comes (4 + 2) y mr = _ from comes_op (j := 6) (by omega), p3, p4]
            exact ⟨_, _, _, rfl, rfl, set 8 6 y (.inr (.inr ⟨rfl, rfl, n, by omega, c, n3⟩))⟩
      · rw [if_neg x2, if_neg x2]
        exact err1 hh
theorem tick_o {mc mr : Mem} (h : RLx mc mr) (x : Int32) : Sm (fX8_tick x mc) (fX9_tick x mr) := by
  have hh := h
  obtain ⟨⟨r, al, f, q, w⟩, _⟩ := h
  have S := WS_7 w
  unfold fX8_tick fX9_tick
  rw [wi_eq]
  rcases win (l := 1) (h := 60) (by omega) (by omega) x with z | ⟨n, n1, n2, n3, n4⟩
  · rw [if_pos (show fX9_within x 1 60 = 0 from z), if_pos (show fX9_within x 1 60 = 0 from z)]
    exact err1 hh
  · have z : ¬ fX9_within x 1 60 = 0 := by rw [show fX9_within x 1 60 = 1 from n4]; exact one0
    obtain ⟨t, t1, t2, t3⟩ := S.2.2.2.2.2.2.2.1
    rw [if_neg z, if_neg z, t2, t3, n3, o_add]
    by_cases c : t + n ≤ 9999
    · rw [if_pos (by rw [show (9999 : Int32) = o32 9999 from rfl, o_le (by omega) (by omega)]; exact c), if_pos (by rw [show (9999 : Int32) = o32 9999 from rfl, o_le (by omega) (by omega)]; exact c)]
      obtain ⟨e, g, e1, e2, e3, e4⟩ := lp_two (bs := lX8_tick_39 (o32 n)) (bt := lX9_tick_40 (o32 n)) (fun i s u => s.1 = o32 i ∧ u.1 = o32 i ∧ WR 0 s.2 (u.2 138) ∧ CF 0 mc s.2 ∧ MF mr u.2 ∧ u.2 138 0 = o32 (t + i)) (fun e g => e.1 = g.1 ∧ RLx e.2 g.2) n 0 (0, mc) (0, mr) fu fu ⟨rfl, rfl, ⟨r, al, f, q, w⟩, CF_rf, MF_rf, t2⟩ (fun i s u _ hi hJ => by
        obtain ⟨j1, j2, j3, j4, j5, j6⟩ := hJ
        obtain ⟨m', mr', g1, g2, g3, g4, g5, g6⟩ := goOn_R j3 (by omega) j6
        unfold lX8_tick_39 lX9_tick_40
        rw [j1, j2, if_neg (by rw [o_le (by omega) (by omega)]; omega), if_neg (by rw [o_le (by omega) (by omega)]; omega), g1, g2, o_s]
        exact ⟨_, _, rfl, rfl, rfl, rfl, g3, CF_tr j4 g4, MF_tr j5 g5, g6⟩) (fun s u hJ => by
        obtain ⟨j1, j2, j3, j4, j5, j6⟩ := hJ
        obtain ⟨N, _, k1, k2⟩ := many_R j3
        rw [Nat.zero_add] at j1 j2
        unfold lX8_tick_39 lX9_tick_40
        rw [j1, j2, if_pos (by rw [o_le (by omega) (by omega)]; omega), if_pos (by rw [o_le (by omega) (by omega)]; omega), k1, k2]
        exact ⟨_, _, rfl, rfl, rfl, RL_k hh j3 (CK_CF j4) (MK_MF j5)⟩) (lt_fu (by omega)) (lt_fu (by omega))
      obtain ⟨v, m'⟩ := e
      obtain ⟨v', mr'⟩ := g
      dsimp only at e3 e4
      subst e3
      exact ⟨v, m', mr', e1, e2, e4⟩
    · rw [if_neg (by rw [show (9999 : Int32) = o32 9999 from rfl, o_le (by omega) (by omega)]; exact c), if_neg (by rw [show (9999 : Int32) = o32 9999 from rfl, o_le (by omega) (by omega)]; exact c)]
      exact err3 hh
theorem cnt_tab : ∀ N, N ≤ 16 → cnt (fun b => decide (b < N)) 16 = N := by decide +kernel
theorem foam_o {mc mr : Mem} (h : RLx mc mr) (x y g : Int32) : Sm (fX8_foam x y g mc) (fX9_foam x y g mr) := by
  have hh := h
  obtain ⟨⟨r, al, f, q, w⟩, _⟩ := h
  have S := WS_7 w
  have b1 : ∀ z, RLx mc mr → (fX9_within x 1 4 = 0 ∨ fX9_within y 1 4 = 0 ∨ fX9_within g 0 99999 = 0) → z = bX9_foam_28 mr → fX9_foam x y g mr = z := fun z _ hz e => by
    unfold fX9_foam
    rw [e]
    rcases hz with hz | hz | hz
    · rw [if_pos hz]
    · rw [if_pos hz]; split <;> rfl
    · rw [if_pos hz]; split <;> (try rfl) <;> split <;> rfl
  have bad : (fX9_within x 1 4 = 0 ∨ fX9_within y 1 4 = 0 ∨ fX9_within g 0 99999 = 0) → Sm (fX8_foam x y g mc) (fX9_foam x y g mr) := fun hz => by
    rw [b1 _ hh hz rfl]
    have e : fX8_foam x y g mc = bX8_foam_28 mc := by
      unfold fX8_foam
      rw [wi_eq, wi_eq, wi_eq]
      rcases hz with hz | hz | hz
      · rw [if_pos hz]
      · rw [if_pos hz]; split <;> rfl
      · rw [if_pos hz]; split <;> (try rfl) <;> split <;> rfl
    rw [e]
    exact err1 hh
  rcases win (l := 1) (h := 4) (by omega) (by omega) x with z | ⟨W, w1, w2, w3, w4⟩
  · exact bad (.inl z)
  · rcases win (l := 1) (h := 4) (by omega) (by omega) y with z | ⟨H, h1, h2, h3, h4⟩
    · exact bad (.inr (.inl z))
    · rcases win (l := 0) (h := 99999) (by omega) (by omega) g with z | ⟨G, _, g2, g3, g4⟩
      · exact bad (.inr (.inr z))
      · subst w3
        subst h3
        subst g3
        have i4 : ¬ fX9_within (o32 G) 0 99999 = 0 := by rw [show fX9_within (o32 G) 0 99999 = 1 from g4]; exact one0
        have iw : ¬ fX9_within (o32 W) 1 4 = 0 := by rw [show fX9_within (o32 W) 1 4 = 1 from w4]; exact one0
        have ih : ¬ fX9_within (o32 H) 1 4 = 0 := by rw [show fX9_within (o32 H) 1 4 = 1 from h4]; exact one0
        obtain ⟨mr', e2, f1, f2, f3, f4, f5⟩ := foam_s (m := mr) (g := o32 G) w1 w2 h1 h2 i4
        obtain ⟨m1, e1, c1, c2, c3, c4, c5, c6⟩ := make_c (k := 0) (m := mc) (g := o32 G) w1 w2 h1 h2
        have FG := foam_Gr w1 w2 h1 h2
        have hwh : W * H ≤ 16 := Nat.mul_le_mul w2 h2
        generalize hM : mput (mput m1 (cw 0 1) 10 0) (cw 0 1) 11 0 = m2
        have g1 : ∀ c j, c ≠ cw 0 1 → m2 c j = m1 c j := fun c j hc => by rw [← hM, mput_c _ _ _ hc, mput_c _ _ _ hc]
        have gw : ∀ j, m2 (cw 0 1) j = if j = 11 then 0 else if j = 10 then 0 else mc (cw 0 1) j := fun j => by
          rw [← hM, mput_get, mput_get, c6 _ _ (cw_ne (by omega)) (fun q _ _ _ => cw_ne (by omega))]
          simp only [true_and]
        have far : ∀ o j, o ≠ 1 → o ≠ 2 → ¬ (3 ≤ o ∧ o ≤ 24 ∧ o ≠ 8) → m2 (cw 0 o) j = mc (cw 0 o) j := fun o j o1 o2 o3 => by
          rw [g1 _ _ (cw_ne o1), c6 _ _ (cw_ne o2) (fun q q1 q2 q3 => cw_ne (by omega))]
        have W2 : WS 0 m2 (mr' 138) (R0 W H) (A0 W H) (fun b j => if j = 2 then G else if j = 4 then b / W else 0) q := by
          refine ⟨FG.1, FG.2.1, f1, CS_same c1 (fun c j hc => g1 c j (fun z => ?_)), fun b hb ab j j1 j4 => ?_, fun u hu => TR_same hu (WS_6 w u hu) (fun o j ho => far o j (by omega) (by omega) (by omega)) (fun j hj => f5 138 j (by omega)), ?_, TP_same (WS_8 w) (fun o j ho => ?_) (fun j hj => f5 138 j (by omega))⟩
          · rcases hc with hc | hc | ⟨v, hv, hc⟩
            · exact cw_ne (by omega) (hc.1.symm.trans z)
            · exact cw_ne (by omega) (hc.symm.trans z)
            · exact cw_ne (by omega) (hc.symm.trans z)
          · have bN : b < W * H := of_decide_eq_true ab
            have bd : b / W ≤ 3 := by
              have : b / W < H := Nat.div_lt_of_lt_mul bN
              omega
            obtain ⟨p1, p2, p3, p4⟩ := f2 b hb bN
            obtain ⟨q1, q2, q3, q4⟩ := c2 b hb bN
            rw [g1 _ _ (cw_ne (by omega))]
            match j, j1, j4 with
            | 1, _, _ => exact ⟨p1, q1, Nat.zero_le _⟩
            | 2, _, _ => exact ⟨p2, q2, g2⟩
            | 3, _, _ => exact ⟨p3, q3, Nat.zero_le _⟩
            | 4, _, _ => exact ⟨p4, q4, bd⟩
            | 0, j1, _ => exact absurd j1 (by omega)
            | j + 5, _, j4 => exact absurd j4 (by omega)
          · obtain ⟨s1, s2, s3, s4, s5, s6, s7, s8, s9⟩ := S
            unfold SC
            rw [g1 (cw 0 2) 6 (cw_ne (by omega)), g1 (cw 0 2) 7 (cw_ne (by omega)), g1 (cw 0 2) 8 (cw_ne (by omega)), c3, c4, c5, f4 8 (by omega) (by omega), f4 9 (by omega) (by omega), f4 10 (by omega) (by omega), f4 7 (by omega) (by omega), f3, f5 138 3 (by omega), f5 138 4 (by omega), f5 138 5 (by omega), f5 138 6 (by omega)]
            simp only [gw]
            exact ⟨trivial, trivial, trivial, s4, s5, s6, s7, ⟨0, by omega, rfl, rfl⟩, ⟨0, by omega, rfl, rfl⟩⟩
          · rcases ho with ⟨rfl, ho⟩ | ho | ho
            · rw [gw, if_neg (by omega), if_neg (by omega)]
            · exact far o j (by omega) (by omega) (by omega)
            · exact far o j (by omega) (by omega) (by omega)
        have e3 : fX8_foam (o32 W) (o32 H) (o32 G) mc = some (o32 (W * H), m2) := by
          unfold fX8_foam fX7_startAnew
          rw [wi_eq, wi_eq, wi_eq, if_neg iw, if_neg ih, if_neg i4, e1, Option.bind_some, hM, Option.bind_some, howMany_s (WS_4 W2)]
          have e : cnt (A0 W H) 16 = W * H := cnt_tab (W * H) hwh
          rw [e]
        refine ⟨_, _, _, e3, e2, RL_k hh ⟨_, _, _, _, W2⟩ (fun c j hc => ?_) (fun c j hc => f5 c j (by omega))⟩
        have n1 : ∀ o, 1 ≤ o → o ≤ 39 → c ≠ cw 0 o := fun o o1 o2 => by unfold cw; omega
        rw [g1 _ _ (n1 1 (by omega) (by omega)), c6 _ _ (n1 2 (by omega) (by omega)) (fun q q1 q2 _ => n1 q (by omega) (by omega))]

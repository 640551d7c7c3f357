/-! BOTH: BURSTS OF A TICK; ONE TURNS, ONE VANISHES -/
def RV (k : Nat) (m0 mr0 m mr : Mem) : Prop := RW k m0 mr0 m mr ∧ mr 138 6 = mr0 138 6
theorem RV_tr {k : Nat} {m0 mr0 m1 mr1 m2 mr2 : Mem} (h1 : RV k m0 mr0 m1 mr1) (h2 : RV k m1 mr1 m2 mr2) : RV k m0 mr0 m2 mr2 := ⟨RW_tr h1.1 h2.1, h2.2.trans h1.2⟩
theorem burst_in {k : Nat} {m mr : Mem} {a b : Nat} (h : WR k m (mr 138)) (ha : a < 16) (hb : b < 16) (hab : a ≠ b) : ∃ m' mr', lX7_burstDry_12 k (o32 a) (o32 b, m) = some (.inl (o32 (b + 1), m')) ∧ lX9_burstsAll_20 (mr 138 6) (o32 a) (o32 b, mr) = some (.inl (o32 (b + 1), mr')) ∧ RV k m mr m' mr' := by
  obtain ⟨r, al, f, q, h⟩ := h
  have C := WS_4 h
  have S := WS_3 h
  have same : ∃ m' mr', some (Sum.inl (o32 (b + 1), m)) = some ((.inl (o32 (b + 1), m')) : (Int32 × Mem) ⊕ ((Int32 × Mem) ⊕ Mem)) ∧ some (Sum.inl (o32 (b + 1), mr)) = some ((.inl (o32 (b + 1), mr')) : (Int32 × Mem) ⊕ ((Int32 × Mem) ⊕ Mem)) ∧ RV k m mr m' mr' := ⟨m, mr, rfl, rfl, RW_rf ⟨r, al, f, q, h⟩, rfl⟩
  unfold lX7_burstDry_12 lX9_burstsAll_20
  rw [if_neg (not_16 hb), if_neg (not_16 hb), isWall_c C ha hb, is_s ha S, is_s hb S, Option.bind_some, Option.bind_some]
  cases ala : al a with
  | false =>
    rw [Bool.false_and, if_pos (show i01 false = 0 from rfl), if_pos (show i01 false = 0 from rfl), o_s]
    exact same
  | true =>
    cases alb : al b with
    | false =>
      rw [Bool.false_and, Bool.and_false, if_pos (show i01 false = 0 from rfl), if_neg (show ¬ i01 true = 0 by decide), Option.bind_some, if_pos (show i01 false = 0 from rfl), o_s]
      exact same
    | true =>
      rw [if_neg (show ¬ i01 true = 0 by decide), Option.bind_some, if_neg (show ¬ i01 true = 0 by decide), two_m S ha hb ala, Option.bind_some]
      by_cases hm : b ∈ r a
      · rw [decide_eq_true hm, if_pos hm, if_neg (show ¬ i01 (true && (true && true)) = 0 by decide), if_neg (show ¬ (1 : Int32) = 0 by decide)]
        obtain ⟨v, v', m1, mr1, e1, e2, e3, n1, n2⟩ := burstOf_R h ha hb ala alb
        have h1 := WS_NF h n1 n2
        have o1 : mr1 138 6 = mr 138 6 := n2 138 6 (by omega) (by omega)
        have r1 : RV k m mr m1 mr1 := ⟨⟨⟨r, al, f, q, h1⟩, NF_CF n1, F146_MF n2, n2 138 0 (by omega) (by omega)⟩, o1⟩
        rw [e1, e2, Option.bind_some, Option.bind_some]
        dsimp only
        by_cases c : v = 0
        · rw [if_pos c, if_pos (e3.mp c), o_s]
          exact ⟨m1, mr1, rfl, rfl, r1⟩
        · obtain ⟨z, i, u, d1, d2, d3⟩ := drawn_R (WS_7 h1)
          have h2 := WS_z z h1
          have r2 : RV k m1 mr1 (mput m1 (cw k 1) 9 z) (mput mr1 138 3 z) := ⟨⟨⟨r, al, f, q, h2⟩, CF_put (by omega) (by omega), MF_put (by omega), by rw [mput_get, if_neg (by omega)]⟩, by rw [mput_get, if_neg (by omega)]⟩
          rw [if_neg c, if_neg (fun z => c (e3.mpr z)), d1, ← o1, d2, Option.bind_some, Option.bind_some]
          dsimp only
          by_cases c2 : i = 0
          · rw [if_pos c2, if_pos (d3.mp c2), o_s]
            exact ⟨_, _, rfl, rfl, RV_tr r1 r2⟩
          · rw [if_neg c2, if_neg (fun z => c2 (d3.mpr z)), canBurst_c (WS_4 h2) (WS_1 h2) ha hb ala alb hm, canBurst_s ha hb (WS_3 h2) (WS_1 h2) ala alb hm, Option.bind_some, Option.bind_some]
            cases hmb : mayBur r a b with
            | false =>
              rw [if_pos (show i01 false = 0 from rfl), if_pos (show i01 false = 0 from rfl), o_s]
              exact ⟨_, _, rfl, rfl, RV_tr r1 r2⟩
            | true =>
              obtain ⟨m3, mr3, u1, u2, u3, u4⟩ := unite_R h2 ha hb hab ala alb hm hmb
              rw [if_neg (show ¬ i01 true = 0 by decide), if_neg (show ¬ i01 true = 0 by decide), u1, u2, Option.bind_some, Option.bind_some, o_s]
              exact ⟨_, _, rfl, rfl, RV_tr (RV_tr r1 r2) ⟨u3, u4⟩⟩
      · rw [decide_eq_false hm, if_neg hm, if_pos (show i01 (true && (true && false)) = 0 by decide), if_pos rfl, o_s]
        exact same
theorem burstDry_R {k : Nat} {m mr : Mem} (h : WR k m (mr 138)) : ∃ m' mr', fX7_burstDry k m = some m' ∧ fX9_burstsAll mr = some mr' ∧ RW k m mr m' mr' := by
  unfold fX7_burstDry fX9_burstsAll
  refine lp_two (bs := lX7_burstDry_2 k) (bt := lX9_burstsAll_10 (mr 138 6)) (fun i s t => s.1 = o32 i ∧ t.1 = o32 i ∧ RV k m mr s.2 t.2) (fun e f => RW k m mr e f) 16 0 (0, m) (0, mr) fu fu ⟨rfl, rfl, RW_rf h, rfl⟩ (fun a s t _ ha hJ => ?_) (fun s t hJ => ?_) (lt_fu (by omega)) (lt_fu (by omega))
  · obtain ⟨j1, j2, j3⟩ := hJ
    have ha : a < 16 := by omega
    unfold lX7_burstDry_2 lX9_burstsAll_10
    rw [j1, j2, if_neg (not_16 ha), if_neg (not_16 ha), o_s]
    refine lp_two (bs := lX7_burstDry_12 k (o32 a)) (bt := lX9_burstsAll_20 (mr 138 6) (o32 a)) (fun i s t => s.1 = o32 (a + 1 + i) ∧ t.1 = o32 (a + 1 + i) ∧ RV k m mr s.2 t.2) (fun e f => ∃ s' t', e = .inl s' ∧ f = .inl t' ∧ s'.1 = o32 (a + 1) ∧ t'.1 = o32 (a + 1) ∧ RV k m mr s'.2 t'.2) (15 - a) 0 (o32 (a + 1), s.2) (o32 (a + 1), t.2) fu fu ⟨rfl, rfl, j3⟩ (fun i s t _ hi hJ => ?_) (fun s t hJ => ?_) (lt_fu (by omega)) (lt_fu (by omega)) |> fun ⟨e, f, e1, e2, s', t', e3, e4, e5⟩ => ⟨s', t', by rw [e1, e3], by rw [e2, e4], e5⟩
    · obtain ⟨s1, s2⟩ := s
      obtain ⟨t1, t2⟩ := t
      obtain ⟨i1, i2, i3⟩ := hJ
      dsimp only at i1 i2 i3
      subst i1
      subst i2
      obtain ⟨m', mr', e1, e2, e3⟩ := burst_in (a := a) (b := a + 1 + i) i3.1.1 ha (by omega) (by omega)
      rw [i3.2] at e2
      exact ⟨_, _, e1, e2, rfl, rfl, RV_tr i3 e3⟩
    · obtain ⟨i1, i2, i3⟩ := hJ
      unfold lX7_burstDry_12 lX9_burstsAll_20
      rw [i1, i2, if_pos (by rw [show (16 : Int32) = o32 16 from rfl, o_le (by omega) (by omega)]; omega), if_pos (by rw [show (16 : Int32) = o32 16 from rfl, o_le (by omega) (by omega)]; omega), o_s]
      exact ⟨_, _, rfl, rfl, _, _, rfl, rfl, rfl, rfl, i3⟩
  · obtain ⟨j1, j2, j3⟩ := hJ
    unfold lX7_burstDry_2 lX9_burstsAll_10
    rw [j1, j2, if_pos (by decide), if_pos (by decide)]
    exact ⟨_, _, rfl, rfl, j3.1⟩
theorem turn_R {k : Nat} {m mr : Mem} {r : Nat → List Nat} {al : Nat → Bool} {f : Nat → Nat → Nat} {q : Nat → List Nat} {a b : Nat} (h : WS k m (mr 138) r al f q) (ha : a < 16) (hb : b < 16) (ala : al a = true) (alb : al b = true) (hab : b ∈ r a) (ht : mayTurn r a b) : ∃ m' mr', fX0_turnOver k (o32 a) (o32 b) m = some m' ∧ fX9_turns (o32 a) (o32 b) mr = some mr' ∧ WS k m' (mr' 138) (turnR r a b) al f q ∧ CF k m m' ∧ MF mr mr' ∧ mr' 138 0 = mr 138 0 := by
  have G := WS_1 h
  have Fc := WS_2 h
  obtain ⟨m1, e1, c1, f1⟩ := turnOver_c ha hb (WS_4 h) G Fc ala alb hab ht
  obtain ⟨mr1, e2, s2, f2⟩ := turns_s ha hb (WS_3 h) G ala alb hab ht.1 ht.2.2.1
  obtain ⟨hla, hlb, hcd, hn⟩ := ht
  have ew : ∀ z, mput mr1 138 8 (mr 138 8 + 1) 138 z = if z = 8 then mr 138 8 + 1 else mr1 138 z := fun z => by
    rw [mput_get]
    simp only [true_and]
  have mo : ∀ j, j < 12 ∨ 812 ≤ j → mr1 138 j = mr 138 j := fun j hj => f2 138 j (fun p => by obtain ⟨_, b', p2, p3, p4⟩ := p; omega)
  have mf : ∀ b j, b < 16 → j ≤ 4 → mr1 138 (12 + 50 * b + j) = mr 138 (12 + 50 * b + j) := fun b j hb hj => f2 138 _ (fun p => by obtain ⟨_, b', p2, p3, p4⟩ := p; omega)
  have cf : ∀ o j, o ≠ 2 → o ≠ 7 → ¬ (9 ≤ o ∧ o ≤ 24) → mput m1 (cw k 2) 6 (m (cw k 2) 6 + 1) (cw k o) j = m (cw k o) j := fun o j p1 p2 p3 => by
    rw [mput_c _ _ _ (cw_ne p1), f1 _ _ (cw_ne p2) (fun b hb => cw_ne (by omega))]
  have cf2 : ∀ j, j ≠ 6 → mput m1 (cw k 2) 6 (m (cw k 2) 6 + 1) (cw k 2) j = m (cw k 2) j := fun j p1 => by
    rw [mput_j _ _ _ _ p1, f1 _ _ (cw_ne (by omega)) (fun b hb => cw_ne (by omega))]
  refine ⟨_, _, e1, e2, ⟨turn_Gr ha hb G ala alb hab hla hlb hcd hn, turn_FC ha hb G Fc ala alb hab hla hlb hcd hn, RS_w (w := mr1 138) s2 (fun b hb g hg => by rw [ew, if_neg (by omega)]), CS_same c1 (fun c j hc => ?_), fun b' hb' ha' j h1 h4 => ?_, fun u hu => TR_same hu (WS_6 h u hu) (fun o j ho => cf o j (by omega) (by omega) (by omega)) (fun j hj => by rw [ew, if_neg (by omega), mo j (by omega)]), ?_, TP_same (WS_8 h) (fun o j ho => cf o j (by omega) (by omega) (by omega)) (fun j hj => by rw [ew, if_neg (by omega), mo j (by omega)])⟩, fun c j hc => ?_, fun c j h1 h2 h3 h4 h5 => ?_, by rw [ew, if_neg (by omega), mo 0 (by omega)]⟩
  · rw [mput_get, if_neg (fun z => ?_)]
    rcases hc with hc | hc | ⟨v, hv, hc⟩
    · omega
    · exact absurd (hc.symm.trans z.1) (cw_ne (by omega))
    · exact absurd (hc.symm.trans z.1) (cw_ne (by omega))
  · rw [ew, if_neg (by omega), mf b' j hb' h4, cf (j + 2) b' (by omega) (by omega) (by omega)]
    exact WS_5 h b' hb' ha' j h1 h4
  · obtain ⟨s1, s2, s3, s4, s5⟩ := WS_7 h
    unfold SC
    simp only [ew]
    have c1 : ∀ j, mput m1 (cw k 2) 6 (m (cw k 2) 6 + 1) (cw k 1) j = m (cw k 1) j := fun j => cf 1 j (by omega) (by omega) (by omega)
    simp only [c1]
    rw [cf2 7 (by omega), cf2 8 (by omega), mput_at, mo 9 (by omega), mo 10 (by omega), mo 3 (by omega), mo 4 (by omega), mo 5 (by omega), mo 6 (by omega), mo 0 (by omega), mo 7 (by omega)]
    exact ⟨by rw [if_pos trivial, s1], s2, s3, s4, s5⟩
  · rw [mput_c _ _ _ (hc 2 (by omega) (by omega)), f1 c j (hc 7 (by omega) (by omega)) (fun b hb => hc (9 + b) (by omega) (by omega))]
  · rw [mput_c _ _ _ h1, f2 c j (fun z => h1 z.1)]
theorem lose_R {k : Nat} {m mr : Mem} {r : Nat → List Nat} {al : Nat → Bool} {f : Nat → Nat → Nat} {q : Nat → List Nat} {a : Nat} (h : WS k m (mr 138) r al f q) (ha : a < 16) (ala : al a = true) (h3 : (r a).length = 3) : ∃ m' mr', fX0_lose k (o32 a) m = some m' ∧ fX9_vanishes (o32 a) mr = some mr' ∧ WS k m' (mr' 138) (outR r a (r a)) (offB al a) f q ∧ CF k m m' ∧ MF mr mr' ∧ mr' 138 0 = mr 138 0 := by
  have G := WS_1 h
  have Fc := WS_2 h
  obtain ⟨m1, e1, c1, f1⟩ := lose_c ha (WS_4 h) G ala
  obtain ⟨mr1, e2, s2, f2, f3⟩ := vanishes_s ha (WS_3 h) G ala
  have ew : ∀ z, mput mr1 138 9 (mr 138 9 + 1) 138 z = if z = 9 then mr 138 9 + 1 else mr1 138 z := fun z => by
    rw [mput_get]
    simp only [true_and]
  have mo : ∀ j, j < 12 ∨ 812 ≤ j → mr1 138 j = mr 138 j := fun j hj => f2 138 j (fun p => by omega)
  have cf : ∀ o j, o ≠ 2 → o ≠ 7 → ¬ (9 ≤ o ∧ o ≤ 24) → mput m1 (cw k 2) 7 (m (cw k 2) 7 + 1) (cw k o) j = m (cw k o) j := fun o j p1 p2 p3 => by
    rw [mput_c _ _ _ (cw_ne p1), f1 _ _ (fun z => cw_ne p1 z.1) (cw_ne p2) (fun b hb => cw_ne (by omega))]
  have cf2 : ∀ j, j ≠ 0 → j ≠ 7 → mput m1 (cw k 2) 7 (m (cw k 2) 7 + 1) (cw k 2) j = m (cw k 2) j := fun j p0 p1 => by
    rw [mput_j _ _ _ _ p1, f1 _ _ (fun z => p0 z.2) (cw_ne (by omega)) (fun b hb => cw_ne (by omega))]
  refine ⟨_, _, e1, e2, ⟨van_Gr ha G, van_FC ha ala G Fc h3, RS_w (w := mr1 138) s2 (fun b hb g hg => by rw [ew, if_neg (by omega)]), CS_same c1 (fun c j hc => ?_), fun b' hb' ha' j h1 h4 => ?_, fun u hu => TR_same hu (WS_6 h u hu) (fun o j ho => cf o j (by omega) (by omega) (by omega)) (fun j hj => by rw [ew, if_neg (by omega), mo j (by omega)]), ?_, TP_same (WS_8 h) (fun o j ho => cf o j (by omega) (by omega) (by omega)) (fun j hj => by rw [ew, if_neg (by omega), mo j (by omega)])⟩, fun c j hc => ?_, fun c j h1 h2 h3 h4 h5 => ?_, by rw [ew, if_neg (by omega), mo 0 (by omega)]⟩
  · rw [mput_get, if_neg (fun z => ?_)]
    rcases hc with hc | hc | ⟨v, hv, hc⟩
    · omega
    · exact absurd (hc.symm.trans z.1) (cw_ne (by omega))
    · exact absurd (hc.symm.trans z.1) (cw_ne (by omega))
  · have az := offB_t.mp ha'
    rw [ew, if_neg (by omega), f3 b' hb' az.2 j (by omega), cf (j + 2) b' (by omega) (by omega) (by omega)]
    exact WS_5 h b' hb' az.1 j h1 h4
  · obtain ⟨s1, s2, s3, s4, s5⟩ := WS_7 h
    unfold SC
    simp only [ew]
    have c1 : ∀ j, mput m1 (cw k 2) 7 (m (cw k 2) 7 + 1) (cw k 1) j = m (cw k 1) j := fun j => cf 1 j (by omega) (by omega) (by omega)
    simp only [c1]
    rw [cf2 6 (by omega) (by omega), cf2 8 (by omega) (by omega), mput_at, mo 8 (by omega), mo 10 (by omega), mo 3 (by omega), mo 4 (by omega), mo 5 (by omega), mo 6 (by omega), mo 0 (by omega), mo 7 (by omega)]
    exact ⟨s1, by rw [if_pos trivial, s2], s3, s4, s5⟩
  · rw [mput_c _ _ _ (hc 2 (by omega) (by omega)), f1 c j (fun z => hc 2 (by omega) (by omega) z.1) (hc 7 (by omega) (by omega)) (fun b hb => hc (9 + b) (by omega) (by omega))]
  · rw [mput_c _ _ _ h1]
    exact f2 c j (fun z => h1 z.1)

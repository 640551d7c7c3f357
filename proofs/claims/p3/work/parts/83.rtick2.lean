/-! BOTH: A TICK -/
/-- where the least of the first j + 1 stands, the first of like ones -/
def lsI (l : List Nat) : Nat → Nat
  | 0 => 0
  | j + 1 => if l.getD (j + 1) 0 < l.getD (lsI l j) 0 then j + 1 else lsI l j
theorem lsI_le (l : List Nat) : ∀ j, lsI l j ≤ j
  | 0 => Nat.le_refl _
  | j + 1 => by
    have := lsI_le l j
    unfold lsI
    split <;> omega
theorem getD_16 {l : List Nat} (h : ∀ x ∈ l, x ≤ 16) (i : Nat) : l.getD i 0 ≤ 16 := by
  by_cases hi : i < l.length
  · rw [getD_g hi]
    exact h _ (List.getElem_mem hi)
  · rw [List.getD_eq_getElem?_getD, List.getElem?_eq_none (by omega)]
    exact Nat.zero_le _
theorem leastIn_s {m : Mem} {b : Nat} {l : List Nat} (hb : b < 16) (h : rgAt m b l) : fX9_leastIn (o32 b) m = some (o32 (lsI l (l.length - 1))) := by
  have hl := h.1
  unfold fX9_leastIn
  refine lp_fwd (body := lX9_leastIn_4 (o32 b) m) (l.length - 1) (fun j => (o32 (lsI l j), o32 (j + 1))) fu (fun j hj => ?_) ?_ (lt_fu (by omega))
  · have lj := lsI_le l j
    have g1 := getD_16 h.2.2.1 (j + 1)
    have g2 := getD_16 h.2.2.1 (lsI l j)
    unfold lX9_leastIn_4
    dsimp only
    rw [sd_o hb, h.2.1, Option.bind_some, if_neg (by rw [o_le (by omega) (by omega)]; omega), rg_o hb (by omega), rg_o hb (by omega), Option.bind_some, Option.bind_some, h.2.2.2 _ (show j + 1 < l.length by omega), h.2.2.2 _ (show lsI l j < l.length by omega), ← getD_g, ← getD_g, o_s]
    show _ = some (Sum.inl (o32 (lsI l (j + 1)), _))
    rw [show lsI l (j + 1) = if l.getD (j + 1) 0 < l.getD (lsI l j) 0 then j + 1 else lsI l j from rfl]
    by_cases c : l.getD (j + 1) 0 < l.getD (lsI l j) 0
    · rw [if_neg (by rw [o_le (by omega) (by omega)]; omega), if_pos c]
    · rw [if_pos (by rw [o_le (by omega) (by omega)]; omega), if_neg c]
  · unfold lX9_leastIn_4
    dsimp only
    rw [sd_o hb, h.2.1, Option.bind_some, if_pos (by rw [o_le (by omega) (by omega)]; omega)]
def tolD (l : List Nat) (i : Nat) : Nat := l.getD ((lsI l (l.length - 1) + i) % l.length) 0
theorem toldAt_c {k : Nat} {m : Mem} {b i : Nat} {l : List Nat} (hb : b < 16) (h : cg k m b l) (h0 : 0 < l.length) (hi : i < 31) : fX0_toldAt k (o32 b) (o32 i) m = some (o32 (tolD l i)) := by
  have hl := h.1
  unfold fX0_toldAt
  rw [sidesOf_c hb h, Option.bind_some]
  refine lp_fwd (body := lX0_toldAt_12 k (o32 b) (o32 i) (o32 l.length) m) (l.length - 1) (fun j => (o32 (lsI l j), o32 (j + 1))) fu (fun j hj => ?_) ?_ (lt_fu (by omega))
  · have lj := lsI_le l j
    have g1 := getD_16 h.2.2.1 (j + 1)
    have g2 := getD_16 h.2.2.1 (lsI l j)
    unfold lX0_toldAt_12
    dsimp only
    rw [if_neg (by rw [o_le (by omega) (by omega)]; omega), at_ci hb h (show j + 1 < l.length by omega), at_ci hb h (show lsI l j < l.length by omega), Option.bind_some, Option.bind_some, ← getD_g, ← getD_g, o_s]
    show _ = some (Sum.inl (o32 (lsI l (j + 1)), _))
    rw [show lsI l (j + 1) = if l.getD (j + 1) 0 < l.getD (lsI l j) 0 then j + 1 else lsI l j from rfl]
    by_cases c : l.getD (j + 1) 0 < l.getD (lsI l j) 0
    · rw [if_neg (by rw [o_le (by omega) (by omega)]; omega), if_pos c]
    · rw [if_pos (by rw [o_le (by omega) (by omega)]; omega), if_neg c]
  · have lj := lsI_le l (l.length - 1)
    unfold lX0_toldAt_12
    dsimp only
    rw [if_pos (by rw [o_le (by omega) (by omega)]; omega), o_add, at_c hb h h0 (by omega), Option.bind_some]
    rfl
theorem told_m2 {m : Mem} {b i : Nat} {l : List Nat} (hb : b < 16) (h : rgAt m b l) (h0 : 0 < l.length) (hi : i ≤ l.length) : fX9_at (o32 b) (o32 (lsI l (l.length - 1)) + o32 i) m = some (o32 (tolD l i)) := by
  have lj := lsI_le l (l.length - 1)
  exact at_z hb h (by omega) hi
theorem tolD_mem {l : List Nat} (h0 : 0 < l.length) (i : Nat) : tolD l i ∈ l := by
  have := Nat.mod_lt (lsI l (l.length - 1) + i) h0
  unfold tolD
  rw [getD_g this]
  exact List.getElem_mem this
theorem canTurn_R {k : Nat} {m mr : Mem} {r : Nat → List Nat} {al : Nat → Bool} {f : Nat → Nat → Nat} {q : Nat → List Nat} {a b : Nat} (h : WS k m (mr 138) r al f q) (ha : a < 16) (hb : b < 16) (ala : al a = true) (alb : al b = true) (hab : b ∈ r a) : ∃ v, fX0_canTurn k (o32 a) (o32 b) m = some v ∧ fX9_canTurn (o32 a) (o32 b) mr = some v ∧ (v = 0 ∨ (¬ v = 0 ∧ mayTurn r a b)) := by
  obtain ⟨v, e1, e2⟩ := canTurn_c (WS_4 h) (WS_1 h) ha hb ala alb hab
  obtain ⟨v', e3, e4⟩ := canTurn_s ha hb (WS_3 h) (WS_1 h) ala alb hab
  rcases e2 with ⟨p1, p2⟩ | ⟨p1, p2⟩
  · rcases e4 with ⟨p3, p4⟩ | ⟨p3, p4⟩
    · rw [p1] at e1; rw [p3] at e3
      exact ⟨1, e1, e3, .inr ⟨by decide, p2⟩⟩
    · exact absurd p2 p4
  · rcases e4 with ⟨p3, p4⟩ | ⟨p3, p4⟩
    · exact absurd p4 p2
    · rw [p1] at e1; rw [p3] at e3
      exact ⟨0, e1, e3, .inl rfl⟩
theorem lp_i {S E : Type} {body : S → Option (S ⊕ E)} {s s' : S} {n : Nat} (h : body s = some (.inl s')) : lp body (n + 1) s = lp body n s' := by
  show (match body s with | none => none | some (.inl s') => lp body n s' | some (.inr e) => some e) = _
  rw [h]
theorem lp_e {S E : Type} {body : S → Option (S ⊕ E)} {s : S} {e : E} {n : Nat} (h : body s = some (.inr e)) : lp body (n + 1) s = some e := by
  show (match body s with | none => none | some (.inl s') => lp body n s' | some (.inr e) => some e) = _
  rw [h]
theorem turnFirst_R {k : Nat} {m mr : Mem} {r : Nat → List Nat} {al : Nat → Bool} {f : Nat → Nat → Nat} {q : Nat → List Nat} {a : Nat} (h : WS k m (mr 138) r al f q) (ha : a < 16) (ala : al a = true) (h0 : 0 < (r a).length) : ∃ m' mr', fX7_turnFirst k (o32 a) m = some m' ∧ fX9_turnsFirst (o32 a) mr = some mr' ∧ RW k m mr m' mr' := by
  have G := WS_1 h
  have ga := CS_g (WS_4 h) ha ala
  have Ra := ((WS_3 h) a ha).2 ala
  have la := ga.1
  unfold fX7_turnFirst fX9_turnsFirst
  rw [sidesOf_c ha ga, leastIn_s ha Ra, sd_o ha, Ra.2.1, Option.bind_some, Option.bind_some, Option.bind_some]
  have go : ∀ d i n n', i + d = (r a).length → d + 2 < n → d + 2 < n' → ∃ m' mr', lp (lX7_turnFirst_11 k (o32 a) (o32 (r a).length) m) n (o32 i) = some m' ∧ lp (lX9_turnsFirst_18 (o32 a) (o32 (lsI (r a) ((r a).length - 1))) (o32 (r a).length)) n' (0, o32 i, mr) = some mr' ∧ RW k m mr m' mr' := by
    intro d
    induction d with
    | zero =>
      intro i n n' hi hn hn'
      obtain ⟨n, rfl⟩ : ∃ z, n = z + 1 := ⟨n - 1, by omega⟩
      obtain ⟨n', rfl⟩ : ∃ z, n' = z + 1 := ⟨n' - 1, by omega⟩
      have e1 : lX7_turnFirst_11 k (o32 a) (o32 (r a).length) m (o32 i) = some (.inr m) := by
        unfold lX7_turnFirst_11
        rw [if_pos (by rw [o_le (by omega) (by omega)]; omega)]
      have e2 : lX9_turnsFirst_18 (o32 a) (o32 (lsI (r a) ((r a).length - 1))) (o32 (r a).length) (0, o32 i, mr) = some (.inr mr) := by
        unfold lX9_turnsFirst_18
        dsimp only
        rw [if_pos (by rw [o_le (by omega) (by omega)]; omega)]
      unfold lp
      rw [e1, e2]
      exact ⟨m, mr, rfl, rfl, RW_rf ⟨r, al, f, q, h⟩⟩
    | succ d ih =>
      intro i n n' hi hn hn'
      obtain ⟨n, rfl⟩ : ∃ z, n = z + 1 := ⟨n - 1, by omega⟩
      obtain ⟨n', rfl⟩ : ∃ z, n' = z + 1 := ⟨n' - 1, by omega⟩
      have hm := tolD_mem h0 i
      have p := CS_m (k := k) (m := m) G ha ala hm
      have tc := toldAt_c (i := i) ha ga h0 (by omega)
      have tm := told_m2 (i := i) ha Ra h0 (by omega)
      generalize tolD (r a) i = x at *
      have il : ¬ o32 (r a).length ≤ o32 i := by rw [o_le (by omega) (by omega)]; omega
      by_cases h16 : x = 16
      · subst h16
        have e1 : lX7_turnFirst_11 k (o32 a) (o32 (r a).length) m (o32 i) = some (.inl (o32 (i + 1))) := by
          unfold lX7_turnFirst_11
          rw [if_neg il, tc, Option.bind_some]
          unfold fX0_canTurn
          rw [show fX0_isWall k (o32 a) (o32 16) m = _ from isWall_16, Option.bind_some, if_pos rfl, Option.bind_some, if_pos rfl, o_s]
        have e2 : lX9_turnsFirst_18 (o32 a) (o32 (lsI (r a) ((r a).length - 1))) (o32 (r a).length) (0, o32 i, mr) = some (.inl (0, o32 (i + 1), mr)) := by
          unfold lX9_turnsFirst_18
          dsimp only
          rw [if_neg il, if_pos rfl, tm, Option.bind_some, if_pos (show o32 16 = 16 from rfl), o_s]
        unfold lp
        rw [e1, e2]
        exact ih (i + 1) n n' (by omega) (by omega) (by omega)
      · have p2 := p.2 h16
        obtain ⟨v, v1, v2, v3⟩ := canTurn_R h ha p2.1 ala p2.2.1 hm
        rcases v3 with v3 | ⟨v3, v4⟩
        · have e1 : lX7_turnFirst_11 k (o32 a) (o32 (r a).length) m (o32 i) = some (.inl (o32 (i + 1))) := by
            unfold lX7_turnFirst_11
            rw [if_neg il, tc, Option.bind_some, v1, Option.bind_some, if_pos v3, o_s]
          have e2 : lX9_turnsFirst_18 (o32 a) (o32 (lsI (r a) ((r a).length - 1))) (o32 (r a).length) (0, o32 i, mr) = some (.inl (0, o32 (i + 1), mr)) := by
            unfold lX9_turnsFirst_18
            dsimp only
            rw [if_neg il, if_pos rfl, tm, Option.bind_some, if_neg (fun z => h16 ((e16 p.1).mp z)), v2, Option.bind_some, if_pos v3, o_s]
          unfold lp
          rw [e1, e2]
          exact ih (i + 1) n n' (by omega) (by omega) (by omega)
        · obtain ⟨m', mr', t1, t2, t3, t4, t5, t6⟩ := turn_R h ha p2.1 ala p2.2.1 hm v4
          have e1 : lX7_turnFirst_11 k (o32 a) (o32 (r a).length) m (o32 i) = some (.inr m') := by
            unfold lX7_turnFirst_11
            rw [if_neg il, tc, Option.bind_some, v1, Option.bind_some, if_neg v3, t1]
            rfl
          have e2 : lX9_turnsFirst_18 (o32 a) (o32 (lsI (r a) ((r a).length - 1))) (o32 (r a).length) (0, o32 i, mr) = some (.inl (1, o32 (i + 1), mr')) := by
            unfold lX9_turnsFirst_18
            dsimp only
            rw [if_neg il, if_pos rfl, tm, Option.bind_some, if_neg (fun z => h16 ((e16 p.1).mp z)), v2, Option.bind_some, if_neg v3, t2, Option.bind_some, o_s]
          obtain ⟨n'', rfl⟩ : ∃ z, n' = z + 1 := ⟨n' - 1, by omega⟩
          have e3 : lX9_turnsFirst_18 (o32 a) (o32 (lsI (r a) ((r a).length - 1))) (o32 (r a).length) (1, o32 (i + 1), mr') = some (.inr mr') := by
            unfold lX9_turnsFirst_18
            dsimp only
            rw [if_neg (show ¬ (1 : Int32) = 0 by decide)]
            split <;> rfl
          refine ⟨m', mr', ?_, ?_, ⟨_, _, _, _, t3⟩, t4, t5, t6⟩
          · exact lp_e e1
          · exact (lp_i e2).trans (lp_e e3)
  exact go (r a).length 0 fu fu (by omega) (lt_fu (by omega)) (lt_fu (by omega))
theorem end_in {k : Nat} {s u : Int32 × Mem} {b : Nat} (h1 : s.1 = o32 b) (h2 : u.1 = o32 b) (h : WR k s.2 (u.2 138)) (hb : b < 16) : ∃ m' mr', lX7_loseEmpty_2 k s = some (.inl (o32 (b + 1), m')) ∧ lX9_ticks_14 u = some (.inl (o32 (b + 1), mr')) ∧ RW k s.2 u.2 m' mr' := by
  unfold lX7_loseEmpty_2 lX9_ticks_14
  rw [h1, h2]
  generalize s.2 = m at *
  generalize u.2 = mr at *
  obtain ⟨r, al, f, q, h⟩ := h
  have C := WS_4 h
  have S := WS_3 h
  have G := WS_1 h
  have same : ∃ m' mr', some (Sum.inl (o32 (b + 1), m)) = some ((.inl (o32 (b + 1), m')) : (Int32 × Mem) ⊕ Mem) ∧ some (Sum.inl (o32 (b + 1), mr)) = some ((.inl (o32 (b + 1), mr')) : (Int32 × Mem) ⊕ Mem) ∧ RW k m mr m' mr' := ⟨m, mr, rfl, rfl, RW_rf ⟨r, al, f, q, h⟩⟩
  rw [if_neg (not_16 hb), if_neg (not_16 hb), has_c C hb, is_s hb S, Option.bind_some]
  cases alb : al b with
  | false =>
    rw [if_pos (show i01 false = 0 from rfl), if_pos (show i01 false = 0 from rfl), o_s]
    exact same
  | true =>
    have ga := CS_g C hb alb
    have la := ga.1
    have k2 := WS_5 h b hb alb 2 (by omega) (by omega)
    have l2 : f b 2 ≤ 99999 := k2.2.2
    have z0 : (0 : Int32) = o32 0 := rfl
    have z3 : (3 : Int32) = o32 3 := rfl
    rw [if_neg (show ¬ i01 true = 0 by decide), if_neg (show ¬ i01 true = 0 by decide), if_pos (o_inb hb (by omega)), show fX9_of (o32 b) 2 mr = _ from fd_m h hb alb 2 (by omega) (by omega), Option.bind_some]
    rw [show m (cw k 4) (o32 b).toNatClampNeg = _ from fd_c h hb alb 2 (by omega) (by omega)]
    by_cases g0 : o32 (f b 2) = 0
    · rw [if_pos g0, if_pos g0, canVanish_c C G hb alb, sd_m h hb alb, Option.bind_some, Option.bind_some]
      by_cases c3 : (r b).length = 3
      · have i3 : o32 (r b).length ≤ 3 := by rw [z3, o_le (by omega) (by omega)]; omega
        have ie : o32 (r b).length = 3 := by rw [c3]; rfl
        rw [decide_eq_true c3, Bool.true_and, if_pos i3, Option.bind_some, if_pos ie, canVanish_s hb S G alb, Option.bind_some]
        cases hv : mayVan r b with
        | false =>
          rw [if_pos (show i01 false = 0 from rfl), if_pos (show i01 false = 0 from rfl), if_pos (o_inb hb (by omega)), sd_c h hb alb, if_pos (by rw [z3, o_le (by omega) (by omega)]; omega), o_s]
          exact same
        | true =>
          obtain ⟨m', mr', t1, t2, t3, t4, t5, t6⟩ := lose_R h hb alb c3
          rw [if_neg (show ¬ i01 true = 0 by decide), if_neg (show ¬ i01 true = 0 by decide), t1, t2, Option.bind_some, Option.bind_some, o_s]
          exact ⟨_, _, rfl, rfl, ⟨_, _, _, _, t3⟩, t4, t5, t6⟩
      · rw [decide_eq_false c3, Bool.false_and, if_pos (show i01 false = 0 from rfl), if_pos (o_inb hb (by omega)), sd_c h hb alb]
        by_cases c4 : (r b).length ≤ 3
        · rw [if_pos (by rw [z3, o_le (by omega) (by omega)]; omega), if_pos (by rw [z3, o_le (by omega) (by omega)]; omega), Option.bind_some, if_neg (by rw [z3, o_eq (by omega) (by omega)]; exact c3), o_s]
          exact same
        · obtain ⟨m', mr', t1, t2, t3⟩ := turnFirst_R h hb alb (by omega)
          rw [if_neg (by rw [z3, o_le (by omega) (by omega)]; omega), if_neg (by rw [z3, o_le (by omega) (by omega)]; omega), t1, t2, Option.bind_some, Option.bind_some, o_s]
          exact ⟨_, _, rfl, rfl, t3⟩
    · rw [if_neg g0, if_neg g0, o_s]
      exact same
theorem WS_t {k t : Nat} {m mr : Mem} {r : Nat → List Nat} {al : Nat → Bool} {f : Nat → Nat → Nat} {q : Nat → List Nat} (ht : t ≤ 9999) (h : WS k m (mr 138) r al f q) : WS k (mput m (cw k 1) 10 (o32 t)) (mput mr 138 0 (o32 t) 138) r al f q := by
  obtain ⟨a1, a2, a3, a4, a5, a6, a7, a8⟩ := h
  have ew : ∀ z, mput mr 138 0 (o32 t) 138 z = if z = 0 then o32 t else mr 138 z := fun z => by
    rw [mput_get]
    simp only [true_and]
  refine ⟨a1, a2, RS_w a3 (fun b' hb' g hg => by rw [ew, if_neg (by omega)]), CS_same a4 (fun c z hc => ?_), FR_same a5 (fun o z h1 h2 => by rw [mput_c _ _ _ (cw_ne (by omega))]) (fun z h1 h2 => by rw [ew, if_neg (by omega)]), fun u hu => TR_same hu (a6 u hu) (fun o z ho => by rw [mput_c _ _ _ (cw_ne (by omega))]) (fun z hz => by rw [ew, if_neg (by omega)]), ?_, TP_same a8 (fun o z ho => by rw [mput_get, if_neg (fun q => by have := cw_inj q.1; omega)]) (fun z hz => by rw [ew, if_neg (by omega)])⟩
  · rcases hc with hc | hc | ⟨x, hx, hc⟩
    · rw [hc.1, mput_c _ _ _ (cw_ne (by omega))]
    · rw [hc, mput_c _ _ _ (cw_ne (by omega))]
    · rw [hc, mput_c _ _ _ (cw_ne (by omega))]
  · have c1 : ∀ j, j ≠ 10 → mput m (cw k 1) 10 (o32 t) (cw k 1) j = m (cw k 1) j := fun j hj => mput_j _ _ _ _ hj
    have c2 : ∀ j, mput m (cw k 1) 10 (o32 t) (cw k 2) j = m (cw k 2) j := fun j => by rw [mput_c _ _ _ (cw_ne (by omega))]
    obtain ⟨s1, s2, s3, s4, s5, s6, s7, s8, s9⟩ := a7
    unfold SC
    simp only [ew, c2]
    rw [c1 9 (by omega), c1 6 (by omega), c1 7 (by omega), c1 8 (by omega), c1 11 (by omega), mput_at]
    exact ⟨s1, s2, s3, s4, s5, s6, s7, ⟨t, ht, rfl, rfl⟩, s9⟩
theorem goOn_R {k t : Nat} {m mr : Mem} (h : WR k m (mr 138)) (ht : t < 9999) (h0 : mr 138 0 = o32 t) : ∃ m' mr', fX7_goOn k m = some m' ∧ fX9_ticks mr = some mr' ∧ WR k m' (mr' 138) ∧ CF k m m' ∧ MF mr mr' ∧ mr' 138 0 = o32 (t + 1) := by
  obtain ⟨m1, mr1, a1, a2, a3⟩ := passGas_R h
  obtain ⟨m2, mr2, b1, b2, b3⟩ := runDown_R a3.1
  obtain ⟨m3, mr3, c1, c2, c3⟩ := burstDry_R b3.1
  have r3 := RW_tr (RW_tr a3 b3) c3
  have L : ∃ m4 e, lp (lX7_loseEmpty_2 k) fu (0, m3) = some m4 ∧ lp lX9_ticks_14 fu (0, mr3) = some e ∧ ∃ mr4, e = mput mr4 138 0 (o32 (t + 1)) ∧ RW k m mr m4 mr4 := by
    refine lp_two (bs := lX7_loseEmpty_2 k) (bt := lX9_ticks_14) (fun i s u => s.1 = o32 i ∧ u.1 = o32 i ∧ RW k m mr s.2 u.2) (fun m4 e => ∃ mr4, e = mput mr4 138 0 (o32 (t + 1)) ∧ RW k m mr m4 mr4) 16 0 (0, m3) (0, mr3) fu fu ⟨rfl, rfl, r3⟩ (fun b s u _ hb hJ => ?_) (fun s u hJ => ?_) (lt_fu (by omega)) (lt_fu (by omega))
    · obtain ⟨j1, j2, j3⟩ := hJ
      obtain ⟨m', mr', e1, e2, e3⟩ := end_in j1 j2 j3.1 (by omega)
      exact ⟨_, _, e1, e2, rfl, rfl, RW_tr j3 e3⟩
    · obtain ⟨j1, j2, j3⟩ := hJ
      unfold lX7_loseEmpty_2 lX9_ticks_14
      rw [j1, j2, if_pos (by decide), if_pos (by decide), j3.2.2.2, h0, o_s]
      exact ⟨_, _, rfl, rfl, _, rfl, j3⟩
  obtain ⟨m4, e, d1, d2, mr4, d3, d4⟩ := L
  obtain ⟨⟨r, al, f, q, W⟩, C, M, t4⟩ := d4
  have e10 : m4 (cw k 1) 10 = o32 t := by rw [tick_eq (mr := mr4) (WS_7 W), t4, h0]
  refine ⟨mput m4 (cw k 1) 10 (o32 (t + 1)), mput mr4 138 0 (o32 (t + 1)), ?_, ?_, ⟨r, al, f, q, WS_t (by omega) W⟩, CF_tr C (CF_put (by omega) (by omega)), MF_tr M (MF_put (by omega)), by rw [mput_get, if_pos ⟨rfl, rfl⟩]⟩
  · unfold fX7_goOn fX7_loseEmpty
    rw [a1, Option.bind_some, b1, Option.bind_some, c1, Option.bind_some, d1, Option.bind_some, e10, o_s, show fJ9_min_7cf53 9999 (o32 (t + 1)) = _ from min_b (a := 9999) (by omega) (by omega), Nat.min_eq_right (by omega)]
  · unfold fX9_ticks
    rw [a2, Option.bind_some, b2, Option.bind_some, c2, Option.bind_some, d2, d3]

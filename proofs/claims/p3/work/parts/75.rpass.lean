/-! BOTH: GAS PASSES -/
theorem min_b {a b : Nat} (ha : a < 2147483648) (hb : b < 2147483648) : fJ9_min_7cf53 (o32 a) (o32 b) = o32 (min a b) := by
  unfold fJ9_min_7cf53
  by_cases h : b < a
  · rw [if_pos ((o_lt hb ha).mpr h), Nat.min_eq_right (by omega)]
  · rw [if_neg (fun z => h ((o_lt hb ha).mp z)), Nat.min_eq_left (by omega)]
theorem max_b {a b : Nat} (ha : a < 2147483648) (hb : b < 2147483648) : fJ9_max_7cf53 (o32 a) (o32 b) = o32 (max a b) := by
  unfold fJ9_max_7cf53
  by_cases h : a < b
  · rw [if_pos ((o_lt ha hb).mpr h), Nat.max_eq_right (by omega)]
  · rw [if_neg (fun z => h ((o_lt ha hb).mp z)), Nat.max_eq_left (by omega)]
theorem lets_bd (x : Int32) : 0 ≤ (fX1_lets x).toInt ∧ (fX1_lets x).toInt ≤ 12 := by
  unfold fX1_lets
  (repeat' split) <;> decide
theorem held_bd (x : Int64) : -9999 ≤ (fJ9_max_f86c9 (-9999) (fJ9_min_f86c9 9999 x)).toInt ∧ (fJ9_max_f86c9 (-9999) (fJ9_min_f86c9 9999 x)).toInt ≤ 9999 := by
  have e1 : (-9999 : Int64).toInt = -9999 := by decide
  have e2 : (9999 : Int64).toInt = 9999 := by decide
  have h1 : (fJ9_min_f86c9 9999 x).toInt ≤ 9999 := by
    unfold fJ9_min_f86c9
    split
    · rename_i h
      rw [lg_cmp_gt, Int64.lt_iff_toInt_lt] at h
      omega
    · omega
  unfold fJ9_max_f86c9
  split
  · rename_i h
    rw [lg_cmp_lt, Int64.lt_iff_toInt_lt] at h
    omega
  · omega
theorem flow_bd (x : Int64) (p q : Int32) : ∃ n, n < 2147483648 ∧ fJ9_abs_0f7a4 ((((fJ9_max_f86c9 (-9999) (fJ9_min_f86c9 9999 x)) * ((fX1_lets p).toInt64)) * ((fX1_lets q).toInt64)) / (144 : Int64)).toInt32 = o32 n := by
  obtain ⟨b1, b2⟩ := held_bd x
  obtain ⟨p1, p2⟩ := lets_bd p
  obtain ⟨q1, q2⟩ := lets_bd q
  generalize fJ9_max_f86c9 (-9999) (fJ9_min_f86c9 9999 x) = F at *
  generalize fX1_lets p = P at *
  generalize fX1_lets q = Q at *
  have a1 : (F.toInt * P.toInt).natAbs ≤ 9999 * 12 := by
    rw [Int.natAbs_mul]
    exact Nat.mul_le_mul (by omega) (by omega)
  have a2 : (F.toInt * P.toInt * Q.toInt).natAbs ≤ 9999 * 12 * 12 := by
    rw [Int.natAbs_mul]
    exact Nat.mul_le_mul a1 (by omega)
  have e1 : (F * P.toInt64).toInt = F.toInt * P.toInt := by
    rw [Int64.toInt_mul, Int32.toInt_toInt64]
    exact Int.bmod_eq_of_le (by omega) (by omega)
  have e2 : (F * P.toInt64 * Q.toInt64).toInt = F.toInt * P.toInt * Q.toInt := by
    rw [Int64.toInt_mul, Int32.toInt_toInt64, e1]
    exact Int.bmod_eq_of_le (by omega) (by omega)
  have e3 : (F * P.toInt64 * Q.toInt64 / 144).toInt = (F.toInt * P.toInt * Q.toInt).tdiv 144 := by
    rw [Int64.toInt_div_of_ne_right _ _ (by decide), e2]
    rfl
  have a3 := Int.natAbs_tdiv_le_natAbs (F.toInt * P.toInt * Q.toInt) 144
  rw [← e3] at a3
  generalize F * P.toInt64 * Q.toInt64 / 144 = G at *
  have e4 : G.toInt32.toInt = G.toInt := by
    rw [Int64.toInt_toInt32]
    exact Int.bmod_eq_of_le (by omega) (by omega)
  refine ⟨G.toInt.natAbs, by omega, ?_⟩
  unfold fJ9_abs_0f7a4
  have z0 : (0 : Int32).toInt = 0 := by decide
  by_cases h : (0 : Int32) ≤ G.toInt32
  · rw [if_pos h]
    rw [Int32.le_iff_toInt_le] at h
    apply Int32.toInt_inj.mp
    rw [o_ti (by omega)]
    omega
  · rw [if_neg h]
    rw [Int32.le_iff_toInt_le] at h
    apply Int32.toInt_inj.mp
    rw [o_ti (by omega), Int32.toInt_neg, e4, Int.bmod_eq_of_le (by omega) (by omega)]
    omega
theorem passing_bd {k : Nat} {x y v : Int32} {m m' : Mem} (h : fX7_passing k x y m = some (v, m')) : ∃ n, n < 2147483648 ∧ fJ9_abs_0f7a4 v = o32 n := by
  unfold fX7_passing at h
  split at h
  · cases h
    exact ⟨0, by omega, rfl⟩
  · split at h
    · cases h
      exact ⟨0, by omega, rfl⟩
    · cases hl : fX7_law k x y m with
      | none => rw [hl] at h; cases h
      | some q =>
        rw [hl, Option.bind_some] at h
        split at h
        · split at h
          · cases h
            exact flow_bd _ _ _
          · cases h
        · cases h
theorem RS_w {w w' : Nat → Int32} {r : Nat → List Nat} {al : Nat → Bool} (h : RS (fun _ => w) r al) (e : ∀ b, b < 16 → ∀ g, g = 0 ∨ (5 ≤ g ∧ g < 50) → w' (12 + 50 * b + g) = w (12 + 50 * b + g)) : RS (fun _ => w') r al := fun b hb => by
  have q := h b hb
  refine ⟨(e b hb 0 (by omega)).trans q.1, fun ha => ?_⟩
  obtain ⟨q1, q2, q3, q4⟩ := q.2 ha
  exact ⟨q1, (e b hb 5 (by omega)).trans q2, q3, fun i hi => (e b hb (6 + i) (by omega)).trans (q4 i hi)⟩
def updF (f : Nat → Nat → Nat) (b j v : Nat) : Nat → Nat → Nat := fun b' j' => if b' = b ∧ j' = j then v else f b' j'
theorem updF_at (f : Nat → Nat → Nat) (b j v : Nat) : updF f b j v b j = v := if_pos ⟨rfl, rfl⟩
theorem updF_ne (f : Nat → Nat → Nat) {b j v b' j' : Nat} (h : ¬ (b' = b ∧ j' = j)) : updF f b j v b' j' = f b' j' := if_neg h
theorem WS_fld {k : Nat} {m mr : Mem} {r : Nat → List Nat} {al : Nat → Bool} {f : Nat → Nat → Nat} {q : Nat → List Nat} {b j v : Nat} (h : WS k m (mr 138) r al f q) (hb : b < 16) (h1 : 1 ≤ j) (h4 : j ≤ 4) (hv : v ≤ lim j) : WS k (mput m (cw k (j + 2)) b (o32 v)) (mput mr 138 (12 + 50 * b + j) (o32 v) 138) r al (updF f b j v) q := by
  obtain ⟨a1, a2, a3, a4, a5, a6, a7, a8⟩ := h
  have ew : ∀ z, mput mr 138 (12 + 50 * b + j) (o32 v) 138 z = if z = 12 + 50 * b + j then o32 v else mr 138 z := fun z => by
    rw [mput_get]
    simp only [true_and]
  refine ⟨a1, a2, RS_w a3 (fun b' hb' g hg => ?_), CS_same a4 (fun c z hc => ?_), fun b' hb' ha' j' h1' h4' => ?_, fun u hu => TR_same hu (a6 u hu) (fun o z ho => ?_) (fun z hz => ?_), SC_same a7 (fun o z ho => ?_) (fun z h5 h6 h7 => ?_), TP_same a8 (fun o z ho => ?_) (fun z hz => ?_)⟩
  · rw [ew, if_neg (by omega)]
  · rcases hc with hc | hc | ⟨x, hx, hc⟩
    · rw [hc.1, mput_c _ _ _ (cw_ne (by omega))]
    · rw [hc, mput_c _ _ _ (cw_ne (by omega))]
    · rw [hc, mput_c _ _ _ (cw_ne (by omega))]
  · have p := a5 b' hb' ha' j' h1' h4'
    by_cases e : b' = b ∧ j' = j
    · rw [e.1, e.2, updF_at, ew, if_pos rfl, mput_at]
      exact ⟨rfl, rfl, hv⟩
    · rw [updF_ne _ e, ew, if_neg (by omega), mput_get, if_neg (fun z => e ⟨z.2, by have := cw_inj z.1; omega⟩)]
      exact p
  · rw [mput_c _ _ _ (cw_ne (by omega))]
  · rw [ew, if_neg (by omega)]
  · rw [mput_c _ _ _ (cw_ne (by omega))]
  · rw [ew, if_neg (by omega)]
  · rw [mput_c _ _ _ (cw_ne (by omega))]
  · rw [ew, if_neg (by omega)]
theorem give_R {k : Nat} {m mr : Mem} {r : Nat → List Nat} {al : Nat → Bool} {f : Nat → Nat → Nat} {q : Nat → List Nat} {a b n : Nat} (h : WS k m (mr 138) r al f q) (ha : a < 16) (hb : b < 16) (hab : a ≠ b) (ala : al a = true) (alb : al b = true) (hn : n < 2147483648) : ∃ m' mr' f', fX7_give k (o32 a) (o32 b) (o32 n) m = some m' ∧ fX9_gives (o32 a) (o32 b) (o32 n) mr = some mr' ∧ WS k m' (mr' 138) r al f' q ∧ CF k m m' ∧ MF mr mr' ∧ mr' 138 0 = mr 138 0 := by
  have pa := WS_5 h a ha ala 2 (by omega) (by omega)
  have pb := WS_5 h b hb alb 2 (by omega) (by omega)
  have la : f a 2 ≤ 99999 := pa.2.2
  have lb : f b 2 ≤ 99999 := pb.2.2
  have ia := o_inb ha (show a < 2147483648 by omega)
  have ib := o_inb hb (show b < 2147483648 by omega)
  have e9 : (99999 : Int32) - o32 (f b 2) = o32 (99999 - f b 2) := o_sub (a := 99999) (by omega) (by omega)
  have en : fJ9_min_7cf53 (o32 n) (fJ9_min_7cf53 (o32 (f a 2)) (99999 - o32 (f b 2))) = o32 (min n (min (f a 2) (99999 - f b 2))) := by
    rw [e9, min_b (by omega) (by omega), min_b hn (by omega)]
  generalize hz : min n (min (f a 2) (99999 - f b 2)) = z at *
  have s1 : o32 (f a 2) - o32 z = o32 (f a 2 - z) := o_sub (by omega) (by omega)
  have w1 := WS_fld (v := f a 2 - z) h ha (by omega) (show 2 ≤ 4 by omega) (by show _ ≤ 99999; omega)
  have w2 := WS_fld (v := f b 2 + z) w1 hb (by omega) (show 2 ≤ 4 by omega) (by show _ ≤ 99999; omega)
  refine ⟨_, _, _, ?_, ?_, w2, CF_tr (CF_put (by omega) (by omega)) (CF_put (by omega) (by omega)), MF_tr (MF_put (by omega)) (MF_put (by omega)), ?_⟩
  · unfold fX7_give
    rw [if_pos ib, if_pos ia, if_pos ia, if_pos ia, if_pos ib, if_pos ib, o_tn (show a < 2147483648 by omega), o_tn (show b < 2147483648 by omega), show m (cw k 4) a = _ from pa.2.1, show m (cw k 4) b = _ from pb.2.1, en, s1, mput_j _ _ _ _ (fun z => hab z.symm), show m (cw k 4) b = _ from pb.2.1, o_add]
  · unfold fX9_gives
    rw [show fX9_of (o32 a) 2 mr = _ from fd_m h ha ala 2 (by omega) (by omega), show fX9_of (o32 b) 2 mr = _ from fd_m h hb alb 2 (by omega) (by omega)]
    simp only [Option.bind_some]
    rw [en, s1, show fX9_tells (o32 a) 2 _ mr = _ from tl_o (f := 2) ha (by omega), Option.bind_some, show fX9_of (o32 b) 2 _ = _ from of_o (f := 2) hb (by omega), mput_get, if_neg (by omega), pb.1, Option.bind_some, o_add, show fX9_tells (o32 b) 2 _ _ = _ from tl_o (f := 2) hb (by omega), Option.bind_some]
  · rw [mput_get, if_neg (by omega), mput_get, if_neg (by omega)]
def RW (k : Nat) (m0 mr0 m mr : Mem) : Prop := WR k m (mr 138) ∧ CF k m0 m ∧ MF mr0 mr ∧ mr 138 0 = mr0 138 0
theorem RW_rf {k : Nat} {m mr : Mem} (h : WR k m (mr 138)) : RW k m mr m mr := ⟨h, CF_rf, MF_rf, rfl⟩
theorem RW_tr {k : Nat} {m0 mr0 m1 mr1 m2 mr2 : Mem} (h1 : RW k m0 mr0 m1 mr1) (h2 : RW k m1 mr1 m2 mr2) : RW k m0 mr0 m2 mr2 := ⟨h2.1, CF_tr h1.2.1 h2.2.1, MF_tr h1.2.2.1 h2.2.2.1, h2.2.2.2.trans h1.2.2.2⟩
theorem two_m {mr : Mem} {r : Nat → List Nat} {al : Nat → Bool} {a b : Nat} (h : RS mr r al) (ha : a < 16) (hb : b < 16) (ala : al a = true) : fX9_isWall (o32 a) (o32 b) mr = some (if b ∈ r a then 1 else 0) := isWall_s ha (by omega) ((h a ha).2 ala)
theorem pass_in {k : Nat} {m mr : Mem} {a b : Nat} (h : WR k m (mr 138)) (ha : a < 16) (hb : b < 16) (hab : a ≠ b) : ∃ m' mr', lX7_passGas_12 k (o32 a) (o32 b, m) = some (.inl (o32 (b + 1), m')) ∧ lX9_passesAll_12 (o32 a) (o32 b, mr) = some (.inl (o32 (b + 1), mr')) ∧ RW k m mr m' mr' := by
  obtain ⟨r, al, f, q, h⟩ := h
  have C := WS_4 h
  have S := WS_3 h
  have same : ∃ m' mr', some (Sum.inl (o32 (b + 1), m)) = some ((.inl (o32 (b + 1), m')) : (Int32 × Mem) ⊕ ((Int32 × Mem) ⊕ Mem)) ∧ some (Sum.inl (o32 (b + 1), mr)) = some ((.inl (o32 (b + 1), mr')) : (Int32 × Mem) ⊕ ((Int32 × Mem) ⊕ Mem)) ∧ RW k m mr m' mr' := ⟨m, mr, rfl, rfl, RW_rf ⟨r, al, f, q, h⟩⟩
  unfold lX7_passGas_12 lX9_passesAll_12
  rw [if_neg (not_16 hb), if_neg (not_16 hb), isWall_c C ha hb, is_s ha S, is_s hb S, Option.bind_some, Option.bind_some]
  cases ala : al a with
  | false =>
    rw [Bool.false_and, if_pos (show i01 false = 0 from rfl), if_pos (show i01 false = 0 from rfl), o_s]
    exact same
  | true =>
    cases alb : al b with
    | false =>
      rw [Bool.false_and, Bool.and_false, if_pos (show i01 false = 0 from rfl), if_neg (show ¬ i01 true = 0 by decide), Option.bind_some, if_pos (show i01 false = 0 from rfl), o_s]
      exact same
    | true =>
      rw [if_neg (show ¬ i01 true = 0 by decide), Option.bind_some, if_neg (show ¬ i01 true = 0 by decide), two_m S ha hb ala, Option.bind_some]
      by_cases hm : b ∈ r a
      · rw [decide_eq_true hm, if_pos hm, if_neg (show ¬ i01 (true && (true && true)) = 0 by decide), if_neg (show ¬ (1 : Int32) = 0 by decide)]
        obtain ⟨v, m1, mr1, e1, e2, n1, n2⟩ := passing_R h ha hb ala alb
        obtain ⟨n, hn, en⟩ := passing_bd e1
        have h1 := WS_NF h n1 n2
        rw [e1, e2, Option.bind_some, Option.bind_some]
        dsimp only
        unfold bX7_passGas_47 bX9_passesAll_60 bX7_passGas_56 bX9_passesAll_69
        rw [en]
        have fin : ∀ x y, x < 16 → y < 16 → x ≠ y → al x = true → al y = true → ∃ m' mr', ((fX7_give k (o32 x) (o32 y) (o32 n) m1).bind fun q4 => (some (.inl ((o32 b + 1), q4)) : Option ((Int32 × Mem) ⊕ ((Int32 × Mem) ⊕ Mem)))) = some (.inl (o32 (b + 1), m')) ∧ ((fX9_gives (o32 x) (o32 y) (o32 n) mr1).bind fun q6 => (some (.inl ((o32 b + 1), q6)) : Option ((Int32 × Mem) ⊕ ((Int32 × Mem) ⊕ Mem)))) = some (.inl (o32 (b + 1), mr')) ∧ RW k m mr m' mr' := fun x y hx hy hxy alx aly => by
          obtain ⟨m2, mr2, f', g1, g2, g3, g4, g5, g6⟩ := give_R h1 hx hy hxy alx aly hn
          rw [g1, g2, Option.bind_some, Option.bind_some, o_s]
          exact ⟨m2, mr2, rfl, rfl, ⟨r, al, f', q, g3⟩, CF_tr (NF_CF n1) g4, MF_tr (F146_MF n2) g5, g6.trans (n2 138 0 (by omega) (by omega))⟩
        by_cases hv : 0 ≤ v
        · rw [if_pos hv, if_pos hv, if_pos hv, if_pos hv]
          exact fin a b ha hb hab ala alb
        · rw [if_neg hv, if_neg hv, if_neg hv, if_neg hv]
          exact fin b a hb ha hab.symm alb ala
      · rw [decide_eq_false hm, if_neg hm, if_pos (show i01 (true && (true && false)) = 0 by decide), if_pos rfl, o_s]
        exact same
theorem passGas_R {k : Nat} {m mr : Mem} (h : WR k m (mr 138)) : ∃ m' mr', fX7_passGas k m = some m' ∧ fX9_passesAll mr = some mr' ∧ RW k m mr m' mr' := by
  unfold fX7_passGas fX9_passesAll
  refine lp_two (bs := lX7_passGas_2 k) (bt := lX9_passesAll_2) (fun i s t => s.1 = o32 i ∧ t.1 = o32 i ∧ RW k m mr s.2 t.2) (fun e f => RW k m mr e f) 16 0 (0, m) (0, mr) fu fu ⟨rfl, rfl, RW_rf h⟩ (fun a s t _ ha hJ => ?_) (fun s t hJ => ?_) (lt_fu (by omega)) (lt_fu (by omega))
  · obtain ⟨j1, j2, j3⟩ := hJ
    have ha : a < 16 := by omega
    unfold lX7_passGas_2 lX9_passesAll_2
    rw [j1, j2, if_neg (not_16 ha), if_neg (not_16 ha), o_s]
    refine lp_two (bs := lX7_passGas_12 k (o32 a)) (bt := lX9_passesAll_12 (o32 a)) (fun i s t => s.1 = o32 (a + 1 + i) ∧ t.1 = o32 (a + 1 + i) ∧ RW k m mr s.2 t.2) (fun e f => ∃ s' t', e = .inl s' ∧ f = .inl t' ∧ s'.1 = o32 (a + 1) ∧ t'.1 = o32 (a + 1) ∧ RW k m mr s'.2 t'.2) (15 - a) 0 (o32 (a + 1), s.2) (o32 (a + 1), t.2) fu fu ⟨rfl, rfl, j3⟩ (fun i s t _ hi hJ => ?_) (fun s t hJ => ?_) (lt_fu (by omega)) (lt_fu (by omega)) |> fun ⟨e, f, e1, e2, s', t', e3, e4, e5⟩ => ⟨s', t', by rw [e1, e3], by rw [e2, e4], e5⟩
    · obtain ⟨s1, s2⟩ := s
      obtain ⟨t1, t2⟩ := t
      obtain ⟨i1, i2, i3⟩ := hJ
      dsimp only at i1 i2 i3
      subst i1
      subst i2
      obtain ⟨m', mr', e1, e2, e3⟩ := pass_in (a := a) (b := a + 1 + i) i3.1 ha (by omega) (by omega)
      exact ⟨_, _, e1, e2, rfl, rfl, RW_tr i3 e3⟩
    · obtain ⟨i1, i2, i3⟩ := hJ
      unfold lX7_passGas_12 lX9_passesAll_12
      rw [i1, i2, if_pos (by rw [show (16 : Int32) = o32 16 from rfl, o_le (by omega) (by omega)]; omega), if_pos (by rw [show (16 : Int32) = o32 16 from rfl, o_le (by omega) (by omega)]; omega), o_s]
      exact ⟨_, _, rfl, rfl, _, _, rfl, rfl, rfl, rfl, i3⟩
  · obtain ⟨j1, j2, j3⟩ := hJ
    unfold lX7_passGas_2 lX9_passesAll_2
    rw [j1, j2, if_pos (by decide), if_pos (by decide)]
    exact ⟨_, _, rfl, rfl, j3⟩

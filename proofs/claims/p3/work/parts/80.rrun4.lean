/-! BOTH: LIQUID RUNS, THE WHOLE -/
theorem run1_R {k b : Nat} {m mr : Mem} {r : Nat → List Nat} {al : Nat → Bool} {f : Nat → Nat → Nat} {q : Nat → List Nat} {I O : Nat → Nat} (h : WS k m (mr 138) r al f q) (hN : WN k m mr al f I O b) (hb : b < 16) : ∃ m' mr' I' O', lX7_runDown_10 k (o32 b, m) = some (.inl (o32 (b + 1), m')) ∧ lX9_runs_28 (o32 b, mr) = some (.inl (o32 (b + 1), mr')) ∧ WS k m' (mr' 138) r al f q ∧ WN k m' mr' al f I' O' (b + 1) ∧ CF k m m' ∧ MF mr mr' ∧ mr' 138 0 = mr 138 0 := by
  have S := WS_3 h
  have C := WS_4 h
  have F := WS_5 h
  unfold lX7_runDown_10 lX9_runs_28
  rw [if_neg (not_16 hb), if_neg (not_16 hb), has_c C hb, is_s hb S, Option.bind_some]
  cases alb : al b with
  | false =>
    rw [if_pos (show i01 false = 0 from rfl), if_pos (show i01 false = 0 from rfl), o_s]
    exact ⟨m, mr, I, O, rfl, rfl, h, fun x hx => by
      obtain ⟨x1, x2, x3, x4⟩ := hN x hx
      exact ⟨x1, x2, by omega, fun ax => ⟨(x4 ax).1, (x4 ax).2.1, fun z => (x4 ax).2.2 (by omega)⟩⟩, CF_rf, MF_rf, rfl⟩
  | true =>
    have k1 := F b hb alb 1 (by omega) (by omega)
    have k3 := F b hb alb 3 (by omega) (by omega)
    have l1 : f b 1 ≤ 6 := k1.2.2
    have l3 : f b 3 ≤ 99999 := k3.2.2
    have o3 : (3 : Int32) = o32 3 := rfl
    have o5 : (5 : Int32) = o32 5 := rfl
    have yp : 0 < yB f b := by unfold yB; split <;> omega
    have yl : yB f b ≤ 8 := by unfold yB; split <;> omega
    obtain ⟨n, m', mr', I', O', n1, n2, c1, c2, w1, w2, w3, w4, w5⟩ := give_part (g := f b 3 / yB f b) h hN hb alb (Nat.div_le_self _ _)
    have ed : o32 (f b 3) / o32 (yB f b) = o32 (f b 3 / yB f b) := o_div (by omega) (by omega) yp
    have cls : ∀ y1 : Int32, y1 = o32 (yB f b) → bX7_giveWater_31 k (o32 b) (o32 (f b 3)) y1 m = some m' := fun y1 hy => by
      unfold bX7_giveWater_31
      rw [hy, if_pos (by rw [show (0 : Int32) = o32 0 from rfl, o_eq (by omega) (by omega)]; omega), n2, Option.bind_some, ed]
      exact c1
    have mdl : ∀ y1 : Int32, y1 = o32 (yB f b) → bX9_runs_84 (o32 b) (o32 (f b 3)) y1 mr = some (.inl (o32 (b + 1), mr')) := fun y1 hy => by
      unfold bX9_runs_84
      rw [hy, if_pos (by rw [show (0 : Int32) = o32 0 from rfl, o_eq (by omega) (by omega)]; omega), ed]
      exact c2
    have ia := o_inb hb (show b < 2147483648 by omega)
    have U : fX1_isUnder (m (cw k 3) (o32 b).toNatClampNeg) 3 m = some (i01 (underB (f b 1) 3)) := by
      rw [o_tn (by omega), show m (cw k 3) b = _ from k1.2.1]
      exact under_c (tp := 3) (by omega) (by omega)
    have W5 : m (cw k 5) (o32 b).toNatClampNeg = o32 (f b 3) := by rw [o_tn (by omega)]; exact k3.2.1
    have G : fX7_giveWater k (o32 b) m = some m' := by
      unfold fX7_giveWater
      rw [if_pos ia, if_pos ia, U, Option.bind_some, W5]
      by_cases t : f b 1 = 3 ∨ f b 1 = 5
      · have e8 : (8 : Int32) = o32 (yB f b) := by unfold yB; rw [if_pos t]; rfl
        have eu : underB (f b 1) 3 = true := by
          unfold underB
          rcases t with t | t <;> rw [t] <;> rfl
        rw [eu, if_neg (by decide)]
        exact cls 8 e8
      · have e4 : (4 : Int32) = o32 (yB f b) := by unfold yB; rw [if_neg t]; rfl
        have eu : underB (f b 1) 3 = false := by
          unfold underB
          rw [decide_eq_false (fun z => t (.inl z.symm)), show decide (f b 1 = 5) = false from decide_eq_false (fun z => t (.inr z))]
          simp
        rw [eu, if_pos (by decide)]
        exact cls 4 e4
    have M67 : ∀ y0 : Int32, (y0 = 0 ↔ ¬ (f b 1 = 3 ∨ f b 1 = 5)) → bX9_runs_67 (o32 b) y0 mr = some (.inl (o32 (b + 1), mr')) := fun y0 hy => by
      unfold bX9_runs_67
      rw [show fX9_of (o32 b) 3 mr = _ from fd_m h hb alb 3 (by omega) (by omega), Option.bind_some]
      by_cases t : f b 1 = 3 ∨ f b 1 = 5
      · rw [if_neg (fun z => hy.mp z t)]
        exact mdl 8 (by unfold yB; rw [if_pos t]; rfl)
      · rw [if_pos (hy.mpr t)]
        exact mdl 4 (by unfold yB; rw [if_neg t]; rfl)
    rw [if_neg (show ¬ i01 true = 0 by decide), if_neg (show ¬ i01 true = 0 by decide), G, Option.bind_some, show fX9_of (o32 b) 1 mr = _ from fd_m h hb alb 1 (by omega) (by omega), Option.bind_some, Option.bind_some, o_s]
    refine ⟨m', mr', I', O', rfl, ?_, w1, w2, w3, w4, w5⟩
    by_cases t3 : f b 1 = 3
    · rw [if_pos (by rw [t3]; rfl)]
      exact M67 1 ⟨fun z => absurd z (by decide), fun z => absurd (.inl t3) z⟩
    · rw [if_neg (by rw [o3, o_eq (by omega) (by omega)]; exact t3)]
      by_cases t5 : f b 1 = 5
      · rw [if_pos (by rw [t5]; rfl)]
        exact M67 1 ⟨fun z => absurd z (by decide), fun z => absurd (.inr t5) z⟩
      · rw [if_neg (by rw [o5, o_eq (by omega) (by omega)]; exact t5)]
        exact M67 0 ⟨fun _ z => by rcases z with z | z; exact t3 z; exact t5 z, fun _ => rfl⟩
theorem run2_R {k b : Nat} {m mr : Mem} {r : Nat → List Nat} {al : Nat → Bool} {f : Nat → Nat → Nat} {q : Nat → List Nat} {V : Nat → Int} {T : Nat → Nat} (h : WS k m (mr 138) r al f q) (hb : b < 16) (hT : al b = true → (m (cw k 39) b).toInt = V b ∧ (f b 3 : Int) + V b = T b ∧ -100000000 ≤ V b ∧ V b ≤ 100000000 ∧ mr 147 b = o32 (T b)) : ∃ m' mr' v, lX7_runDown_40 k (o32 b, m) = some (.inl (o32 (b + 1), m')) ∧ lX9_runs_245 (o32 b, mr) = some (.inl (o32 (b + 1), mr')) ∧ WS k m' (mr' 138) r al (updF f b 3 v) q ∧ (∀ j, m' (cw k 39) j = m (cw k 39) j) ∧ (∀ j, mr' 147 j = mr 147 j) ∧ CF k m m' ∧ MF mr mr' ∧ mr' 138 0 = mr 138 0 := by
  have S := WS_3 h
  have C := WS_4 h
  have F := WS_5 h
  unfold lX7_runDown_40 lX9_runs_245
  rw [if_neg (not_16 hb), if_neg (not_16 hb), has_c C hb, is_s hb S, Option.bind_some]
  cases alb : al b with
  | false =>
    rw [if_pos (show i01 false = 0 from rfl), if_pos (show i01 false = 0 from rfl), o_s]
    refine ⟨m, mr, f b 3, rfl, rfl, ?_, fun _ => rfl, fun _ => rfl, CF_rf, MF_rf, rfl⟩
    have e : updF f b 3 (f b 3) = f := by
      funext x j
      unfold updF
      by_cases e : x = b ∧ j = 3
      · rw [if_pos e, e.1, e.2]
      · rw [if_neg e]
    rw [e]
    exact h
  | true =>
    obtain ⟨v1, v2, v3, v4, v5⟩ := hT alb
    have k3 := F b hb alb 3 (by omega) (by omega)
    have l3 : f b 3 ≤ 99999 := k3.2.2
    have ia := o_inb hb (show b < 2147483648 by omega)
    have X : o32 (f b 3) + m (cw k 39) b = o32 (T b) := by
      apply i_eq _ (by omega)
      rw [i_add (by rw [v1, o_ti (by omega)]; omega) (by rw [v1, o_ti (by omega)]; omega), v1, o_ti (by omega)]
      omega
    have mn : fJ9_min_7cf53 99999 (o32 (T b)) = o32 (min 99999 (T b)) := min_b (a := 99999) (by omega) (by omega)
    have mx : fJ9_max_7cf53 0 (o32 (T b) - 99999) = o32 (T b - 99999) := by
      unfold fJ9_max_7cf53
      have e9 : (99999 : Int32).toInt = 99999 := by decide
      have e0 : (0 : Int32).toInt = 0 := by decide
      have es : (o32 (T b) - 99999).toInt = (T b : Int) - 99999 := by
        rw [i_sub (by rw [o_ti (by omega), e9]; omega) (by rw [o_ti (by omega), e9]; omega), o_ti (by omega), e9]
      by_cases c : (0 : Int32) < o32 (T b) - 99999
      · rw [if_pos c]
        rw [Int32.lt_iff_toInt_lt, es, e0] at c
        apply i_eq _ (by omega)
        rw [es]
        omega
      · rw [if_neg c]
        rw [Int32.lt_iff_toInt_lt, es, e0] at c
        rw [show T b - 99999 = 0 by omega]
        rfl
    have df : o32 (T b) - o32 (min 99999 (T b)) = o32 (T b - 99999) := by
      rw [o_sub (by omega) (by omega), show T b - min 99999 (T b) = T b - 99999 by omega]
    obtain ⟨d, d1, d2, d3⟩ := drain_R (v := T b - 99999) (WS_7 h) (by omega)
    have W := WS_fld (v := min 99999 (T b)) (WS_dr h d1) hb (by omega) (show 3 ≤ 4 by omega) (by show _ ≤ 99999; omega)
    have dc : fX7_drain k (o32 (T b - 99999)) (mput m (cw k 5) b (o32 (min 99999 (T b)))) = mput (mput m (cw k 1) 11 (o32 d)) (cw k 5) b (o32 (min 99999 (T b))) := by
      rw [mput_swap (cw_ne (by omega))]
      have : mput m (cw k 5) b (o32 (min 99999 (T b))) (cw k 1) 11 = m (cw k 1) 11 := by rw [mput_c _ _ _ (cw_ne (by omega))]
      unfold fX7_drain at d2 ⊢
      rw [this]
      have e := congrFun (congrFun d2 (cw k 1)) 11
      rw [mput_at, mput_at] at e
      rw [e]
    rw [if_neg (show ¬ i01 true = 0 by decide), if_neg (show ¬ i01 true = 0 by decide)]
    refine ⟨mput (mput m (cw k 1) 11 (o32 d)) (cw k 5) b (o32 (min 99999 (T b))), mput (mput mr 138 7 (o32 d)) 138 (12 + 50 * b + 3) (o32 (min 99999 (T b))), min 99999 (T b), ?_, ?_, W, fun j => ?_, fun j => ?_, CF_tr (CF_put (by omega) (by omega)) (CF_put (by omega) (by omega)), MF_tr (MF_put (by omega)) (MF_put (by omega)), ?_⟩
    · dsimp only
      rw [if_pos ia, if_pos ia, if_pos ia, if_pos ia, o_tn (by omega), show m (cw k 5) b = _ from k3.2.1, X, mn, mput_at, df, dc, o_s]
    · dsimp only
      rw [if_pos ia, if_pos ia, o_tn (by omega), v5, mx, d3, mput_c _ _ _ (by omega), v5, mn, show fX9_tells (o32 b) 3 _ _ = _ from tl_o (f := 3) hb (by omega), Option.bind_some, o_s]
    · rw [mput_c _ _ _ (cw_ne (by omega)), mput_c _ _ _ (cw_ne (by omega))]
    · rw [mput_c _ _ _ (by omega), mput_c _ _ _ (by omega)]
    · rw [mput_get, if_neg (by omega), mput_get, if_neg (by omega)]
theorem runDown_R {k : Nat} {m mr : Mem} (h : WR k m (mr 138)) : ∃ m' mr', fX7_runDown k m = some m' ∧ fX9_runs mr = some mr' ∧ RW k m mr m' mr' := by
  obtain ⟨r, al, f, q, h⟩ := h
  have F := WS_5 h
  -- the last loop
  have C3 : ∀ (m1 mr1 : Mem) (I O : Nat → Nat), WS k m1 (mr1 138) r al f q → WN k m1 mr1 al f I O 16 → CF k m m1 → MF mr mr1 → mr1 138 0 = mr 138 0 → ∃ m' mr', lp (lX7_runDown_40 k) fu (0, m1) = some m' ∧ lp lX9_runs_245 fu (0, mr1) = some mr' ∧ RW k m mr m' mr' := fun m1 mr1 I O W N C M t0 => by
    refine lp_two (bs := lX7_runDown_40 k) (bt := lX9_runs_245) (fun i s t => s.1 = o32 i ∧ t.1 = o32 i ∧ (∃ f', WS k s.2 (t.2 138) r al f' q ∧ ∀ x, i ≤ x → f' x 3 = f x 3) ∧ (∀ j, s.2 (cw k 39) j = m1 (cw k 39) j) ∧ (∀ j, t.2 147 j = mr1 147 j) ∧ CF k m s.2 ∧ MF mr t.2 ∧ t.2 138 0 = mr 138 0) (fun e g => RW k m mr e g) 16 0 (0, m1) (0, mr1) fu fu ⟨rfl, rfl, ⟨f, W, fun _ _ => rfl⟩, fun _ => rfl, fun _ => rfl, C, M, t0⟩ (fun b s t _ hb hJ => ?_) (fun s t hJ => ?_) (lt_fu (by omega)) (lt_fu (by omega))
    · obtain ⟨s1, s2⟩ := s
      obtain ⟨t1, t2⟩ := t
      obtain ⟨j1, j2, ⟨f', j3, j4⟩, j5, j6, j7, j8, j9⟩ := hJ
      dsimp only at j1 j2 j3 j5 j6 j7 j8 j9
      subst j1
      subst j2
      have hb : b < 16 := by omega
      obtain ⟨x1, x2, x3, x4⟩ := N b hb
      obtain ⟨m', mr', v, e1, e2, e3, e4, e5, e6, e7, e8⟩ := run2_R (V := fun x => (I x : Int) - O x) (T := fun x => f x 3 + I x - O x) j3 hb (fun alb => by
        obtain ⟨y1, y2, y3⟩ := x4 alb
        have l3 : f b 3 ≤ 99999 := (F b hb alb 3 (by omega) (by omega)).2.2
        rw [j5, j6, j4 b (Nat.le_refl _)]
        exact ⟨x1, by omega, by omega, by omega, y1⟩)
      exact ⟨_, _, e1, e2, rfl, rfl, ⟨_, e3, fun x hx => by rw [updF_ne _ (by omega)]; exact j4 x (by omega)⟩, fun j => (e4 j).trans (j5 j), fun j => (e5 j).trans (j6 j), CF_tr j7 e6, MF_tr j8 e7, e8.trans j9⟩
    · obtain ⟨j1, j2, ⟨f', j3, j4⟩, j5, j6, j7, j8, j9⟩ := hJ
      unfold lX7_runDown_40 lX9_runs_245
      rw [j1, j2, if_pos (by decide), if_pos (by decide)]
      exact ⟨_, _, rfl, rfl, ⟨r, al, f', q, j3⟩, j7, j8, j9⟩
  have C2 : ∀ (m1 mr1 : Mem), WS k m1 (mr1 138) r al f q → WN k m1 mr1 al f (fun _ => 0) (fun _ => 0) 0 → CF k m m1 → MF mr mr1 → mr1 138 0 = mr 138 0 → ∃ m' mr', lp (lX7_runDown_10 k) fu (0, m1) = some m' ∧ lp lX9_runs_28 fu (0, mr1) = some mr' ∧ RW k m mr m' mr' := fun m1 mr1 W N C M t0 => by
    refine lp_two (bs := lX7_runDown_10 k) (bt := lX9_runs_28) (fun i s t => s.1 = o32 i ∧ t.1 = o32 i ∧ ∃ I O, WS k s.2 (t.2 138) r al f q ∧ WN k s.2 t.2 al f I O i ∧ CF k m s.2 ∧ MF mr t.2 ∧ t.2 138 0 = mr 138 0) (fun e g => RW k m mr e g) 16 0 (0, m1) (0, mr1) fu fu ⟨rfl, rfl, _, _, W, N, C, M, t0⟩ (fun b s t _ hb hJ => ?_) (fun s t hJ => ?_) (lt_fu (by omega)) (lt_fu (by omega))
    · obtain ⟨s1, s2⟩ := s
      obtain ⟨t1, t2⟩ := t
      obtain ⟨j1, j2, I, O, j3, j4, j5, j6, j7⟩ := hJ
      dsimp only at j1 j2 j3 j4 j5 j6 j7
      subst j1
      subst j2
      obtain ⟨m', mr', I', O', e1, e2, e3, e4, e5, e6, e7⟩ := run1_R j3 j4 (by omega)
      exact ⟨_, _, e1, e2, rfl, rfl, I', O', e3, e4, CF_tr j5 e5, MF_tr j6 e6, e7.trans j7⟩
    · obtain ⟨j1, j2, I, O, j3, j4, j5, j6, j7⟩ := hJ
      obtain ⟨m', mr', e1, e2, e3⟩ := C3 s.2 t.2 I O j3 j4 j5 j6 j7
      unfold lX7_runDown_10 lX9_runs_28
      rw [j1, j2, if_pos (by decide), if_pos (by decide), e1, e2]
      exact ⟨_, _, rfl, rfl, e3⟩
  unfold fX7_runDown fX9_runs
  rw [fill16, Option.bind_some]
  -- the model copies what there is
  have A : ∃ mr', lp lX9_runs_2 fu (0, mr) = some mr' ∧ ∃ m', lp (lX7_runDown_10 k) fu (0, flM m (cw k 39) 16 0) = some m' ∧ RW k m mr m' mr' := by
    refine lp_ix (body := lX9_runs_2) (fun i t => t.1 = o32 i ∧ ∀ c j, t.2 c j = if c = 147 ∧ j < i then mr 138 (12 + 50 * j + 3) else mr c j) (fun mr' => ∃ m', lp (lX7_runDown_10 k) fu (0, flM m (cw k 39) 16 0) = some m' ∧ RW k m mr m' mr') 16 0 (0, mr) fu ⟨rfl, fun c j => by rw [if_neg (by omega)]⟩ (fun i t _ hi hI => ?_) (fun t hI => ?_) (lt_fu (by omega))
    · obtain ⟨t1, t2⟩ := t
      obtain ⟨i1, i2⟩ := hI
      dsimp only at i1 i2
      subst i1
      have hi : i < 16 := by omega
      unfold lX9_runs_2
      dsimp only
      rw [if_neg (not_16 hi), show fX9_of (o32 i) 3 t2 = _ from of_o (f := 3) hi (by omega), Option.bind_some, if_pos (o_inb hi (by omega)), o_tn (by omega), o_s, i2, if_neg (by omega)]
      refine ⟨_, rfl, rfl, fun c j => ?_⟩
      dsimp only
      rw [mput_get, i2]
      by_cases e : c = 147 ∧ j = i
      · rw [if_pos e, if_pos ⟨e.1, by omega⟩, e.2]
      · rw [if_neg e]
        by_cases e2 : c = 147 ∧ j < i
        · rw [if_pos e2, if_pos ⟨e2.1, by omega⟩]
        · rw [if_neg e2, if_neg (by omega)]
    · obtain ⟨t1, t2⟩ := t
      obtain ⟨i1, i2⟩ := hI
      dsimp only at i1 i2
      subst i1
      rw [Nat.zero_add] at i2
      have g1 : ∀ z j, z ≠ cw k 39 → flM m (cw k 39) 16 0 z j = m z j := fun z j hz => by
        unfold flM
        rw [if_neg (fun q => hz q.1)]
      have g2 : ∀ c j, c ≠ 147 → t2 c j = mr c j := fun c j hc => by rw [i2, if_neg (fun q => hc q.1)]
      obtain ⟨m', mr', e1, e2, e3⟩ := C2 (flM m (cw k 39) 16 0) t2 (WS_39 h g1 g2) (fun x hx => by
        refine ⟨by unfold flM; rw [if_pos ⟨rfl, hx⟩]; rfl, Nat.zero_le _, Nat.zero_le _, fun ax => ⟨?_, Nat.zero_le _, fun _ => rfl⟩⟩
        rw [i2, if_pos ⟨rfl, hx⟩]
        exact (F x hx ax 3 (by omega) (by omega)).1) (CF_39 g1) (MF_147 g2) (g2 138 0 (by omega))
      unfold lX9_runs_2
      dsimp only
      rw [if_pos (show (16 : Int32) ≤ o32 (0 + 16) by decide), e2]
      exact ⟨_, rfl, m', e1, e3⟩
  obtain ⟨mr', e1, m', e2, e3⟩ := A
  exact ⟨m', mr', e2, e1, e3⟩

/-! BOTH: WHAT TEXTS GIVE -/
def NF (k : Nat) (m m' : Mem) : Prop := ∀ c j, (∀ o, o = 29 ∨ o = 32 ∨ o = 35 ∨ o = 38 → c ≠ cw k o) → m' c j = m c j
theorem NF_rf {k : Nat} {m : Mem} : NF k m m := fun _ _ _ => rfl
theorem NF_CF {k : Nat} {m m' : Mem} (h : NF k m m') : CF k m m' := fun c j hc => h c j (fun o ho => hc o (by omega) (by omega))
theorem F146_MF {m m' : Mem} (h : F146 m m') : MF m m' := fun c j _ _ h3 h4 _ => h c j h3 h4
theorem F146_rf {m : Mem} : F146 m m := fun _ _ _ _ => rfl
theorem NF_o {k : Nat} {m m' : Mem} (h : NF k m m') {o j : Nat} (ho : o ≠ 29 ∧ o ≠ 32 ∧ o ≠ 35 ∧ o ≠ 38) : m' (cw k o) j = m (cw k o) j := h _ _ (fun z hz => cw_ne (by omega))
theorem WS_NF {k : Nat} {m m' mr mr' : Mem} {r : Nat → List Nat} {al : Nat → Bool} {f : Nat → Nat → Nat} {q : Nat → List Nat} (h : WS k m (mr 138) r al f q) (h1 : NF k m m') (h2 : F146 mr mr') : WS k m' (mr' 138) r al f q := WS_same h (fun c j hc => h1 c j (fun o ho => rc_ne hc (by omega))) (fun j => h2 138 j (by omega) (by omega))
theorem told_c {k u : Nat} {m : Mem} {w : Nat → Int32} {l : List Nat} (h : TR k m w u l) : fX5_isTold k u m = if l = [] then 0 else 1 := by
  unfold fX5_isTold
  rw [h.2.2.2.2.1]
  have h1 := h.1
  by_cases e : l = []
  · subst e
    rfl
  · have : 0 < l.length := List.length_pos_iff.mpr e
    rw [if_neg (by rw [show (0 : Int32) = o32 0 from rfl, o_le (by omega) (by omega)]; omega), if_neg e]
theorem told_m {k u : Nat} {m mr : Mem} {l : List Nat} (hu : u < 3) (h : TR k m (mr 138) u l) : fX9_hasText (o32 u) mr = some (if l = [] then 0 else 1) := by
  unfold fX9_hasText
  have h1 := h.1
  rw [show (896 : Int32) + 62 * o32 u = o32 (896 + 62 * u) by
    show o32 896 + o32 62 * o32 u = _
    rw [o_mul, o_add], if_pos (o_inb (by omega) (by omega)), o_tn (by omega), h.2.2.2.1]
  by_cases e : l = []
  · subst e
    rfl
  · have : 0 < l.length := List.length_pos_iff.mpr e
    rw [if_neg (by rw [show (0 : Int32) = o32 0 from rfl, o_le (by omega) (by omega)]; omega), if_neg e]
theorem given_R {k u : Nat} {m mr : Mem} {l : List Nat} (hu : u < 3) (h : TR k m (mr 138) u l) (hl : l ≠ []) (x1 x2 x3 x4 x5 : Int32) : ∃ v m' mr', fX5_value_5 k u (cw k 38) (fX7_name k x1 x2 x3 x4 x5 m) = some (v, m') ∧ fX9_given (o32 u) x1 x2 x3 x4 x5 mr = some (v, mr') ∧ NF k m m' ∧ F146 mr mr' := by
  generalize hM : fX7_name k x1 x2 x3 x4 x5 m = m1
  generalize hR : mput (mput (mput (mput (mput mr 145 0 x1) 145 1 x2) 145 2 x3) 145 3 x4) 145 4 x5 = mr1
  have f1 : ∀ c j, c ≠ cw k 38 → m1 c j = m c j := fun c j hc => by
    rw [← hM]
    unfold fX7_name
    rw [mput_c _ _ _ hc, mput_c _ _ _ hc, mput_c _ _ _ hc, mput_c _ _ _ hc, mput_c _ _ _ hc]
  have f2 : ∀ c j, c ≠ 145 → mr1 c j = mr c j := fun c j hc => by
    rw [← hR, mput_c _ _ _ hc, mput_c _ _ _ hc, mput_c _ _ _ hc, mput_c _ _ _ hc, mput_c _ _ _ hc]
  have hn : ∀ j, j < 5 → m1 (cw k 38) j = mr1 145 j := fun j hj => by
    rw [← hM, ← hR]
    unfold fX7_name
    simp only [mput_get, true_and]
    (repeat' split) <;> first | rfl | (exfalso; omega)
  have h' : TR k m1 (mr1 138) u l := TR_same hu h (fun o j ho => f1 _ _ (cw_ne (by omega))) (fun j _ => f2 _ _ (by omega))
  obtain ⟨v, m', mr', e1, e2, e3, e4⟩ := value_R hu h' hl hn
  refine ⟨v, m', mr', e1, ?_, fun c j hc => ?_, fun c j h1 h2 => (e4 c j h2).trans (f2 c j h1)⟩
  · unfold fX9_given
    rw [hR, told_m hu h', if_neg hl, Option.bind_some, if_neg (by decide), show (896 : Int32) + 62 * o32 u + 1 = o32 (896 + 62 * u + 1) by
      show o32 896 + o32 62 * o32 u + o32 1 = _
      rw [o_mul, o_add, o_add], e2, Option.bind_some]
  · rw [e3 c j (hc _ (by omega))]
    exact f1 c j (hc _ (by omega))
theorem given_0 {k u : Nat} {m mr : Mem} {l : List Nat} (hu : u < 3) (h : TR k m (mr 138) u l) (hl : l = []) (x1 x2 x3 x4 x5 : Int32) : ∃ mr', fX9_given (o32 u) x1 x2 x3 x4 x5 mr = some (0, mr') ∧ F146 mr mr' := by
  generalize hR : mput (mput (mput (mput (mput mr 145 0 x1) 145 1 x2) 145 2 x3) 145 3 x4) 145 4 x5 = mr1
  have f2 : ∀ c j, c ≠ 145 → mr1 c j = mr c j := fun c j hc => by
    rw [← hR, mput_c _ _ _ hc, mput_c _ _ _ hc, mput_c _ _ _ hc, mput_c _ _ _ hc, mput_c _ _ _ hc]
  have h' : TR k m (mr1 138) u l := TR_same hu h (fun o j ho => rfl) (fun j _ => f2 _ _ (by omega))
  refine ⟨mr1, ?_, fun c j h1 _ => f2 c j h1⟩
  unfold fX9_given
  rw [hR, told_m hu h', if_pos hl, Option.bind_some, if_pos rfl]
theorem fld_m {mr : Mem} {a j : Nat} (ha : a < 16) (hj : j < 50) : fX9_of (o32 a) (o32 j) mr = some (mr 138 (12 + 50 * a + j)) := of_o ha hj
theorem lets_m {mr : Mem} {a : Nat} (ha : a < 16) : fX9_letsOf (o32 a) mr = some (fX1_lets (mr 138 (12 + 50 * a + 1))) := by
  unfold fX9_letsOf fX1_lets
  rw [show fX9_of (o32 a) 1 mr = _ from of_o (f := 1) ha (by omega), Option.bind_some]
  (repeat' split) <;> rfl
theorem dry_m {mr : Mem} {a : Nat} (ha : a < 16) : fX9_dryOf (o32 a) mr = some (fX1_dry (mr 138 (12 + 50 * a + 1)) (mr 138 5)) := by
  unfold fX9_dryOf fX1_dry
  rw [show fX9_of (o32 a) 1 mr = _ from of_o (f := 1) ha (by omega), Option.bind_some]
  (repeat' split) <;> first | rfl | (congr 1; exact Int32.mul_comm _ _)
theorem sd_m {k : Nat} {m mr : Mem} {r : Nat → List Nat} {al : Nat → Bool} {f : Nat → Nat → Nat} {q : Nat → List Nat} {a : Nat} (h : WS k m (mr 138) r al f q) (ha : a < 16) (ala : al a = true) : fX9_sidesOf (o32 a) mr = some (o32 (r a).length) := by
  rw [sd_o ha, (((WS_3 h) a ha).2 ala).2.1]
theorem sd_c {k : Nat} {m : Mem} {w : Nat → Int32} {r : Nat → List Nat} {al : Nat → Bool} {f : Nat → Nat → Nat} {q : Nat → List Nat} {a : Nat} (h : WS k m w r al f q) (ha : a < 16) (ala : al a = true) : m (cw k 7) (o32 a).toNatClampNeg = o32 (r a).length := by
  rw [o_tn (by omega)]
  exact (CS_g (WS_4 h) ha ala).2.1
theorem fd_c {k : Nat} {m : Mem} {w : Nat → Int32} {r : Nat → List Nat} {al : Nat → Bool} {f : Nat → Nat → Nat} {q : Nat → List Nat} {a : Nat} (h : WS k m w r al f q) (ha : a < 16) (ala : al a = true) (j : Nat) (h1 : 1 ≤ j) (h2 : j ≤ 4) : m (cw k (j + 2)) (o32 a).toNatClampNeg = o32 (f a j) := by
  rw [o_tn (by omega)]
  exact (WS_5 h a ha ala j h1 h2).2.1
theorem fd_m {k : Nat} {m mr : Mem} {r : Nat → List Nat} {al : Nat → Bool} {f : Nat → Nat → Nat} {q : Nat → List Nat} {a : Nat} (h : WS k m (mr 138) r al f q) (ha : a < 16) (ala : al a = true) (j : Nat) (h1 : 1 ≤ j) (h2 : j ≤ 4) : fX9_of (o32 a) (o32 j) mr = some (o32 (f a j)) := by
  rw [of_o ha (by omega), (WS_5 h a ha ala j h1 h2).1]
theorem tick_eq {k : Nat} {m mr : Mem} {w : Nat → Int32} (h : SC k m w) : m (cw k 1) 10 = w 0 := by
  obtain ⟨_, _, _, _, _, _, _, ⟨n, _, h1, h2⟩, _⟩ := h
  rw [h1, h2]
theorem rate_eq {k : Nat} {m : Mem} {w : Nat → Int32} (h : SC k m w) : m (cw k 1) 6 = w 4 := by
  obtain ⟨_, _, _, _, ⟨n, _, h1, h2⟩, _⟩ := h
  rw [h1, h2]
theorem dryn_eq {k : Nat} {m : Mem} {w : Nat → Int32} (h : SC k m w) : m (cw k 1) 7 = w 5 := by
  obtain ⟨_, _, _, _, _, ⟨n, _, h1, h2⟩, _⟩ := h
  rw [h1, h2]
theorem passing_R {k : Nat} {m mr : Mem} {r : Nat → List Nat} {al : Nat → Bool} {f : Nat → Nat → Nat} {q : Nat → List Nat} {a b : Nat} (h : WS k m (mr 138) r al f q) (ha : a < 16) (hb : b < 16) (ala : al a = true) (alb : al b = true) : ∃ v m' mr', fX7_passing k (o32 a) (o32 b) m = some (v, m') ∧ fX9_passesBy (o32 a) (o32 b) mr = some (v, mr') ∧ NF k m m' ∧ F146 mr mr' := by
  have T := WS_6 h 0 (by omega)
  have ia := o_inb ha (show a < 2147483648 by omega)
  have ib := o_inb hb (show b < 2147483648 by omega)
  have key : ∀ (v : Int32) (m' mr' : Mem), fX7_law k (o32 a) (o32 b) m = some (v, m') → NF k m m' → F146 mr mr' → ∃ u, fX7_passing k (o32 a) (o32 b) m = some (u, m') ∧ bX9_passesBy_57 (o32 a) (o32 b) v.toInt64 mr' = some (u, mr') := fun v m' mr' e1 n1 n2 => by
    have h' := WS_NF h n1 n2
    unfold fX7_passing bX9_passesBy_57
    rw [has_c (WS_4 h) ha, has_c (WS_4 h) hb, ala, alb, if_neg (by decide), if_neg (by decide), e1, Option.bind_some, if_pos ia, if_pos ib, lets_m ha, lets_m hb, Option.bind_some, Option.bind_some]
    dsimp only
    rw [show m' (cw k 3) (o32 a).toNatClampNeg = _ from fd_c h' ha ala 1 (by omega) (by omega), show m' (cw k 3) (o32 b).toNatClampNeg = _ from fd_c h' hb alb 1 (by omega) (by omega), (WS_5 h' a ha ala 1 (by omega) (by omega)).1, (WS_5 h' b hb alb 1 (by omega) (by omega)).1, rate_eq (WS_7 h), show mr 138 4 = mr' 138 4 from (n2 138 4 (by omega) (by omega)).symm]
    exact ⟨_, rfl, rfl⟩
  by_cases hl : q 0 = []
  · have e1 : fX7_law k (o32 a) (o32 b) m = some (o32 (r b).length - o32 (r a).length, m) := by
      unfold fX7_law
      rw [told_c T, if_pos hl, if_pos rfl, if_pos ib, if_pos ia, sd_c h ha ala, sd_c h hb alb]
    obtain ⟨u, k1, k2⟩ := key _ m mr e1 NF_rf F146_rf
    refine ⟨u, m, mr, k1, ?_, NF_rf, F146_rf⟩
    unfold fX9_passesBy
    rw [show fX9_hasText 0 mr = _ from told_m (u := 0) (by omega) T, if_pos hl, Option.bind_some, if_pos rfl, sd_m h ha ala, sd_m h hb alb, Option.bind_some, Option.bind_some]
    exact k2
  · obtain ⟨v, m', mr', e1, e2, n1, n2⟩ := given_R (by omega) T hl (o32 (r a).length) (o32 (r b).length) (o32 (f a 2)) (o32 (f b 2)) (mr 138 0)
    have e3 : fX7_law k (o32 a) (o32 b) m = some (v, m') := by
      unfold fX7_law
      rw [told_c T, if_neg hl, if_neg (by decide), if_pos ia, if_pos ib, if_pos ia, if_pos ib, sd_c h ha ala, sd_c h hb alb, show m (cw k 4) (o32 a).toNatClampNeg = _ from fd_c h ha ala 2 (by omega) (by omega), show m (cw k 4) (o32 b).toNatClampNeg = _ from fd_c h hb alb 2 (by omega) (by omega), tick_eq (mr := mr) (WS_7 h), e1, Option.bind_some]
    obtain ⟨u, k1, k2⟩ := key v m' mr' e3 n1 n2
    refine ⟨u, m', mr', k1, ?_, n1, n2⟩
    unfold fX9_passesBy
    rw [show fX9_hasText 0 mr = _ from told_m (u := 0) (by omega) T, if_neg hl, Option.bind_some, if_neg (by decide), sd_m h ha ala, sd_m h hb alb, Option.bind_some, Option.bind_some, show fX9_of (o32 a) 2 mr = _ from fd_m h ha ala 2 (by omega) (by omega), show fX9_of (o32 b) 2 mr = _ from fd_m h hb alb 2 (by omega) (by omega), Option.bind_some, Option.bind_some, show fX9_given 0 _ _ _ _ _ mr = _ from e2, Option.bind_some]
    exact k2
theorem dry_c {k : Nat} {m : Mem} {w : Nat → Int32} {r : Nat → List Nat} {al : Nat → Bool} {f : Nat → Nat → Nat} {q : Nat → List Nat} {a : Nat} (h : WS k m w r al f q) (ha : a < 16) (ala : al a = true) : fX7_dry k (o32 a) m = some (fX1_dry (w (12 + 50 * a + 1)) (w 5)) := by
  unfold fX7_dry
  rw [has_c (WS_4 h) ha, ala, if_neg (by decide), if_pos (o_inb ha (by omega)), show m (cw k 3) (o32 a).toNatClampNeg = _ from fd_c h ha ala 1 (by omega) (by omega), (WS_5 h a ha ala 1 (by omega) (by omega)).1, dryn_eq (WS_7 h)]
theorem burstOf_R {k : Nat} {m mr : Mem} {r : Nat → List Nat} {al : Nat → Bool} {f : Nat → Nat → Nat} {q : Nat → List Nat} {a b : Nat} (h : WS k m (mr 138) r al f q) (ha : a < 16) (hb : b < 16) (ala : al a = true) (alb : al b = true) : ∃ v v' m' mr', fX7_burstOf k (o32 a) (o32 b) m = some (v, m') ∧ fX9_isDry (o32 a) (o32 b) mr = some (v', mr') ∧ (v = 0 ↔ v' = 0) ∧ NF k m m' ∧ F146 mr mr' := by
  have T := WS_6 h 1 (by omega)
  have ia := o_inb ha (show a < 2147483648 by omega)
  have ib := o_inb hb (show b < 2147483648 by omega)
  have wa : m (cw k 5) (o32 a).toNatClampNeg = _ := fd_c h ha ala 3 (by omega) (by omega)
  have wb : m (cw k 5) (o32 b).toNatClampNeg = _ := fd_c h hb alb 3 (by omega) (by omega)
  have ma : fX9_of (o32 a) 3 mr = _ := fd_m h ha ala 3 (by omega) (by omega)
  have mb : fX9_of (o32 b) 3 mr = _ := fd_m h hb alb 3 (by omega) (by omega)
  unfold fX7_burstOf fX9_isDry
  rw [if_pos ia, if_pos ib, if_pos ia, if_pos ib, wa, wb, ma, mb, Option.bind_some, Option.bind_some, told_c T, show fX9_hasText 1 mr = _ from told_m (u := 1) (by omega) T, Option.bind_some]
  by_cases hl : q 1 = []
  · rw [if_pos hl, if_pos rfl, if_pos rfl, dry_c h ha ala, dry_c h hb alb, dry_m ha, dry_m hb]
    simp only [Option.bind_some]
    by_cases c1 : fJ9_min_7cf53 (o32 (f a 3)) (o32 (f b 3)) < fX1_dry (mr 138 (12 + 50 * a + 1)) (mr 138 5)
    · rw [if_pos c1, if_pos c1]
      exact ⟨_, _, m, mr, rfl, rfl, Iff.rfl, NF_rf, F146_rf⟩
    · rw [if_neg c1, if_neg c1]
      by_cases c2 : fX1_dry (mr 138 (12 + 50 * b + 1)) (mr 138 5) ≤ fJ9_min_7cf53 (o32 (f a 3)) (o32 (f b 3))
      · rw [if_pos c2, if_pos c2]
        exact ⟨_, _, m, mr, rfl, rfl, Iff.rfl, NF_rf, F146_rf⟩
      · rw [if_neg c2, if_neg c2]
        exact ⟨_, _, m, mr, rfl, rfl, Iff.rfl, NF_rf, F146_rf⟩
  · obtain ⟨v, m', mr', e1, e2, n1, n2⟩ := given_R (by omega) T hl (fJ9_min_7cf53 (o32 (f a 3)) (o32 (f b 3))) (fJ9_max_7cf53 (o32 (f a 3)) (o32 (f b 3))) (o32 (r a).length) (o32 (r b).length) (mr 138 0)
    have z1 : ¬ (1 : Int32) = 0 := by decide
    rw [if_neg hl, if_neg z1, if_neg z1, if_pos ia, if_pos ib, sd_c h ha ala, sd_c h hb alb, sd_m h ha ala, sd_m h hb alb, tick_eq (mr := mr) (WS_7 h), e1]
    simp only [Option.bind_some]
    rw [show fX9_given 1 _ _ _ _ _ mr = _ from e2, Option.bind_some]
    dsimp only
    by_cases c : v = 0
    · rw [if_pos c]
      exact ⟨_, _, m', mr', rfl, rfl, ⟨fun _ => rfl, fun _ => c⟩, n1, n2⟩
    · rw [if_neg c]
      exact ⟨_, _, m', mr', rfl, rfl, ⟨fun z => absurd z c, fun z => absurd z (by decide)⟩, n1, n2⟩
theorem mark_R {k : Nat} {m mr : Mem} {r : Nat → List Nat} {al : Nat → Bool} {f : Nat → Nat → Nat} {q : Nat → List Nat} {a : Nat} (h : WS k m (mr 138) r al f q) (ha : a < 16) (ala : al a = true) : ∃ v m' mr', fX7_mark k (o32 a) m = some (v, m') ∧ fX9_markOf (o32 a) mr = some (v, mr') ∧ NF k m m' ∧ F146 mr mr' := by
  have T := WS_6 h 2 (by omega)
  have ia := o_inb ha (show a < 2147483648 by omega)
  unfold fX7_mark fX9_markOf
  rw [has_c (WS_4 h) ha, ala, if_neg (by decide), told_c T, sd_m h ha ala, Option.bind_some, show fX9_of (o32 a) 2 mr = _ from fd_m h ha ala 2 (by omega) (by omega), show fX9_of (o32 a) 3 mr = _ from fd_m h ha ala 3 (by omega) (by omega), show fX9_of (o32 a) 4 mr = _ from fd_m h ha ala 4 (by omega) (by omega), show fX9_of (o32 a) 1 mr = _ from fd_m h ha ala 1 (by omega) (by omega), Option.bind_some, Option.bind_some, Option.bind_some, Option.bind_some]
  by_cases hl : q 2 = []
  · obtain ⟨mr', e2, n2⟩ := given_0 (u := 2) (by omega) T hl (o32 (r a).length) (o32 (f a 2)) (o32 (f a 3)) (o32 (f a 4)) (o32 (f a 1))
    rw [if_pos hl, if_pos rfl, show fX9_given 2 _ _ _ _ _ mr = _ from e2]
    exact ⟨0, m, mr', rfl, rfl, NF_rf, n2⟩
  · obtain ⟨v, m', mr', e1, e2, n1, n2⟩ := given_R (u := 2) (by omega) T hl (o32 (r a).length) (o32 (f a 2)) (o32 (f a 3)) (o32 (f a 4)) (o32 (f a 1))
    rw [if_neg hl, if_neg (by decide), if_pos ia, if_pos ia, if_pos ia, if_pos ia, if_pos ia, sd_c h ha ala, show m (cw k 4) (o32 a).toNatClampNeg = _ from fd_c h ha ala 2 (by omega) (by omega), show m (cw k 5) (o32 a).toNatClampNeg = _ from fd_c h ha ala 3 (by omega) (by omega), show m (cw k 6) (o32 a).toNatClampNeg = _ from fd_c h ha ala 4 (by omega) (by omega), show m (cw k 3) (o32 a).toNatClampNeg = _ from fd_c h ha ala 1 (by omega) (by omega), e1, show fX9_given 2 _ _ _ _ _ mr = _ from e2]
    exact ⟨v, m', mr', rfl, rfl, n1, n2⟩

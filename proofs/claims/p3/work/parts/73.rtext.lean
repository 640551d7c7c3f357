/-! BOTH: A TEXT AT WORK -/
theorem dpt_s {l : List Nat} {i : Nat} (h : i < l.length) : dpt (l.take (i + 1)) = stp (dpt (l.take i)) l[i] := by
  unfold dpt
  rw [tk1 h, List.foldl_append]
  rfl
theorem stp_none : ∀ (l : List Nat), l.foldl stp none = none
  | [] => rfl
  | _ :: l => stp_none l
theorem dpt_some {l : List Nat} {d i : Nat} (h : dpt l = some d) : ∃ e, dpt (l.take i) = some e := by
  cases hd : dpt (l.take i) with
  | some e => exact ⟨e, rfl⟩
  | none =>
    have : dpt l = none := by
      have e : l = l.take i ++ l.drop i := (List.take_append_drop i l).symm
      unfold dpt at hd ⊢
      rw [e, List.foldl_append, hd]
      exact stp_none _
    rw [this] at h
    cases h
theorem tok_tab : ∀ i, i < 11 → ctok (20000 + i) ≤ -100 ∧ (ctok (20000 + i) = fX5_ofSign 33 ↔ i = 10) ∧ jI2c (-100 - ctok (20000 + i)) = o32 (sg1 i) := by decide +kernel
theorem nam_tab : ∀ j, j < 5 → ¬ ctok (10000 + j) ≤ -100 ∧ ctok (10000 + j) < 0 ∧ ¬ 5 ≤ (-1 - ctok (10000 + j)) ∧ inb (-1 - ctok (10000 + j)) 5 ∧ (-1 - ctok (10000 + j)).toNatClampNeg = j := by decide +kernel
theorem done_R (a b : Int32) : ∀ i, i < 10 → fX5_worked (o32 (sg1 i)) a b = fX9_done (o32 (20000 + i)) a b := fun i hi => by
  match i, hi with
  | 0, _ => rfl
  | 1, _ => rfl
  | 2, _ => rfl
  | 3, _ => rfl
  | 4, _ => rfl
  | 5, _ => rfl
  | 6, _ => rfl
  | 7, _ => rfl
  | 8, _ => rfl
  | 9, _ => rfl
theorem value_R {k u : Nat} {m mr : Mem} {l : List Nat} (hu : u < 3) (h : TR k m (mr 138) u l) (hl : l ≠ []) (hn : ∀ j, j < 5 → m (cw k 38) j = mr 145 j) : ∃ v m' mr', fX5_value_5 k u (cw k 38) m = some (v, m') ∧ fX9_worked (o32 (896 + 62 * u + 1)) mr = some (v, mr') ∧ (∀ c j, c ≠ cw k (29 + 3 * u) → m' c j = m c j) ∧ ∀ c j, c ≠ 146 → mr' c j = mr c j := by
  obtain ⟨h1, h2, h3, h4, h5, h6⟩ := h
  have h3 := h3 hl
  have key := lp_two (bs := lX5_value_5_4 k u (cw k 38)) (bt := lX9_worked_4 (o32 (896 + 62 * u + 1))) (fun i s t => ∃ d, dpt (l.take i) = some d ∧ d ≤ i ∧ s.1 = o32 d ∧ s.2.1 = o32 i ∧ t.1 = o32 d ∧ t.2.1 = o32 (896 + 62 * u + 1 + i) ∧ (∀ x, x < d → s.2.2 (cw k (29 + 3 * u)) x = t.2.2 146 x) ∧ (∀ c j, c ≠ cw k (29 + 3 * u) → s.2.2 c j = m c j) ∧ ∀ c j, c ≠ 146 → t.2.2 c j = mr c j) (fun e f => e.1 = f.1 ∧ (∀ c j, c ≠ cw k (29 + 3 * u) → e.2 c j = m c j) ∧ ∀ c j, c ≠ 146 → f.2 c j = mr c j) l.length 0 (0, 0, m) (0, o32 (896 + 62 * u + 1), mr) fu fu ⟨0, by simp [dpt], Nat.le_refl _, rfl, rfl, rfl, rfl, fun x hx => absurd hx (by omega), fun _ _ _ => rfl, fun _ _ _ => rfl⟩ (fun i s t _ hi hJ => ?_) (fun s t hJ => ?_) (lt_fu (by omega)) (lt_fu (by omega))
  · obtain ⟨e, f, e1, e2, e3, e4, e5⟩ := key
    obtain ⟨v, m'⟩ := e
    obtain ⟨v', mr'⟩ := f
    dsimp only at e3
    subst e3
    exact ⟨v, m', mr', e1, e2, e4, e5⟩
  · obtain ⟨d, j1, j2, j3, j4, j5, j6, j7, j8, j9⟩ := hJ
    have hi : i < l.length := by omega
    have hc := h6 i hi
    have ot := h2 _ (List.getElem_mem hi)
    have dn := dpt_s hi
    rw [j1] at dn
    obtain ⟨dd, hdd⟩ := dpt_some (i := i + 1) h3
    rw [hdd] at dn
    have c27 : s.2.2 (cw k (27 + 3 * u)) 0 = o32 l.length := by rw [j8 _ _ (cw_ne (by omega))]; exact h5
    have c28 : s.2.2 (cw k (28 + 3 * u)) (o32 i).toNatClampNeg = ctok l[i] := by rw [o_tn (by omega), j8 _ _ (cw_ne (by omega))]; exact hc.2
    have w0 : t.2.2 138 (o32 (896 + 62 * u + 1) - 1).toNatClampNeg = o32 l.length := by
      rw [show o32 (896 + 62 * u + 1) - 1 = o32 (896 + 62 * u) from o_sub (b := 1) (by omega) (by omega), o_tn (by omega), j9 _ _ (by omega)]
      exact h4
    have w1 : t.2.2 138 (o32 (896 + 62 * u + 1 + i)).toNatClampNeg = o32 l[i] := by rw [o_tn (by omega), j9 _ _ (by omega)]; exact hc.1
    have ib : inb (o32 (896 + 62 * u + 1) - 1) 1082 := by
      rw [show o32 (896 + 62 * u + 1) - 1 = o32 (896 + 62 * u) from o_sub (b := 1) (by omega) (by omega)]
      exact o_inb (by omega) (by omega)
    have il : ¬ o32 l.length ≤ o32 i := by rw [o_le (by omega) (by omega)]; omega
    have i60 : ¬ (60 : Int32) ≤ o32 i := by rw [show (60 : Int32) = o32 60 from rfl, o_le (by omega) (by omega)]; omega
    have iw : ¬ o32 (896 + 62 * u + 1 + l.length) ≤ o32 (896 + 62 * u + 1 + i) := by rw [o_le (by omega) (by omega)]; omega
    have ii : inb (o32 i) 60 := o_inb (by omega) (by omega)
    have im : inb (o32 (896 + 62 * u + 1 + i)) 1082 := o_inb (by omega) (by omega)
    have fin : ∀ (e p : Nat) (x : Int32), dpt (l.take (i + 1)) = some e → e ≤ i + 1 → (∀ z, z < e → z ≠ p → z < d) → lX5_value_5_4 k u (cw k 38) s = some (.inl (o32 e, o32 (i + 1), mput s.2.2 (cw k (29 + 3 * u)) p x)) → lX9_worked_4 (o32 (896 + 62 * u + 1)) t = some (.inl (o32 e, o32 (896 + 62 * u + 1 + (i + 1)), mput t.2.2 146 p x)) → ∃ s' t', lX5_value_5_4 k u (cw k 38) s = some (.inl s') ∧ lX9_worked_4 (o32 (896 + 62 * u + 1)) t = some (.inl t') ∧ ∃ d', dpt (l.take (i + 1)) = some d' ∧ d' ≤ i + 1 ∧ s'.1 = o32 d' ∧ s'.2.1 = o32 (i + 1) ∧ t'.1 = o32 d' ∧ t'.2.1 = o32 (896 + 62 * u + 1 + (i + 1)) ∧ (∀ x, x < d' → s'.2.2 (cw k (29 + 3 * u)) x = t'.2.2 146 x) ∧ (∀ c j, c ≠ cw k (29 + 3 * u) → s'.2.2 c j = m c j) ∧ ∀ c j, c ≠ 146 → t'.2.2 c j = mr c j := fun e p x q1 q2 q3 q4 q5 => by
      refine ⟨_, _, q4, q5, e, q1, q2, rfl, rfl, rfl, rfl, fun z hz => ?_, fun c j hc => ?_, fun c j hc => ?_⟩
      · dsimp only
        rw [mput_get, mput_get]
        by_cases e : z = p
        · rw [if_pos ⟨rfl, e⟩, if_pos ⟨rfl, e⟩]
        · rw [if_neg (fun q => e q.2), if_neg (fun q => e q.2)]
          exact j7 z (q3 z hz e)
      · dsimp only
        rw [mput_c _ _ _ hc]
        exact j8 c j hc
      · dsimp only
        rw [mput_c _ _ _ hc]
        exact j9 c j hc
    generalize l[i] = t0 at *
    unfold stp at dn
    dsimp only at dn
    by_cases b1 : t0 < 20000
    · have hd : dd = d + 1 := by rw [if_pos b1] at dn; exact Option.some.inj dn
      subst hd
      have t1 : t0 < 10005 := by unfold otok at ot; omega
      have d60 : ¬ (60 : Int32) ≤ o32 d := by rw [show (60 : Int32) = o32 60 from rfl, o_le (by omega) (by omega)]; omega
      have i20 : ¬ (20000 : Int32) ≤ o32 t0 := by rw [show (20000 : Int32) = o32 20000 from rfl, o_le (by omega) (by omega)]; omega
      have id : inb (o32 d) 60 := o_inb (by omega) (by omega)
      by_cases b2 : t0 < 10000
      · have et : ctok t0 = o32 t0 := if_pos b2
        refine fin (d + 1) d (o32 t0) hdd (by omega) (fun z h1 h2 => by omega) ?_ ?_
        · unfold lX5_value_5_4 fX5_plain_5
          rw [j3, j4, c27, if_neg il, if_neg i60, if_pos ii, c28, et, if_neg (by
            rw [Int32.le_iff_toInt_le, o_ti (by omega)]
            have : (-100 : Int32).toInt = -100 := by decide
            omega), if_neg d60, if_neg (not_lt0 (by omega)), Option.bind_some, if_pos id, o_tn (by omega), o_s, o_s]
        · unfold lX9_worked_4 bX9_worked_63
          rw [j5, j6, if_pos ib, w0, o_add, if_neg iw, if_pos im, w1, if_neg i20, if_neg (by rw [show (10000 : Int32) = o32 10000 from rfl, o_le (by omega) (by omega)]; omega), if_pos id, o_tn (by omega), o_s, o_s]
          rfl
      · obtain ⟨j, hj, ej⟩ : ∃ j, j < 5 ∧ t0 = 10000 + j := ⟨t0 - 10000, by omega, by omega⟩
        subst ej
        obtain ⟨n1, n2, n3, n4, n5⟩ := nam_tab j hj
        have e6 : o32 (10000 + j) - 10000 = o32 j := by
          rw [show o32 (10000 + j) - 10000 = o32 (10000 + j - 10000) from o_sub (b := 10000) (by omega) (by omega), show 10000 + j - 10000 = j by omega]
        refine fin (d + 1) d (mr 145 j) hdd (by omega) (fun z h1 h2 => by omega) ?_ ?_
        · unfold lX5_value_5_4 fX5_plain_5
          rw [j3, j4, c27, if_neg il, if_neg i60, if_pos ii, c28, if_neg n1, if_neg d60, if_pos n2, if_neg n3, if_pos n4, n5, Option.bind_some, if_pos id, o_tn (by omega), o_s, o_s, j8 _ _ (cw_ne (by omega)), hn j hj]
        · unfold lX9_worked_4 bX9_worked_63
          rw [j5, j6, if_pos ib, w0, o_add, if_neg iw, if_pos im, w1, if_neg i20, if_pos (by rw [show (10000 : Int32) = o32 10000 from rfl, o_le (by omega) (by omega)]; omega), e6, if_pos (o_inb hj (by omega)), if_pos id, o_tn (show j < 2147483648 by omega), o_tn (by omega), o_s, o_s, j9 _ _ (by omega)]
          rfl
    · obtain ⟨j, hj, ej⟩ : ∃ j, j < 11 ∧ t0 = 20000 + j := by
        unfold otok at ot
        exact ⟨t0 - 20000, by omega, by omega⟩
      subst ej
      obtain ⟨n1, n2, n3⟩ := tok_tab j hj
      have i20 : (20000 : Int32) ≤ o32 (20000 + j) := by rw [show (20000 : Int32) = o32 20000 from rfl, o_le (by omega) (by omega)]; omega
      rw [if_neg b1] at dn
      by_cases b2 : j = 10
      · subst b2
        rw [if_pos rfl] at dn
        have hd1 : 1 ≤ d := by
          by_cases q : 1 ≤ d
          · exact q
          · rw [if_neg q] at dn; cases dn
        rw [if_pos hd1] at dn
        have hd : dd = d := Option.some.inj dn
        subst hd
        have id : inb (o32 (dd - 1)) 60 := o_inb (by omega) (by omega)
        have rd : s.2.2 (cw k (29 + 3 * u)) (o32 (dd - 1)).toNatClampNeg = t.2.2 146 (dd - 1) := by rw [o_tn (by omega)]; exact j7 _ (by omega)
        have rm : t.2.2 146 (o32 (dd - 1)).toNatClampNeg = t.2.2 146 (dd - 1) := by rw [o_tn (by omega)]
        refine fin dd (dd - 1) (if t.2.2 146 (dd - 1) = 0 then 1 else 0) hdd (by omega) (fun z h1 h2 => by omega) ?_ ?_
        · unfold lX5_value_5_4 bX5_value_5_95
          rw [j3, j4, c27, if_neg il, if_neg i60, if_pos ii, c28, if_pos n1, if_pos (n2.mpr rfl), if_neg (by rw [show (1 : Int32) = o32 1 from rfl, o_lt (by omega) (by omega)]; omega), less1' hd1 (by omega), if_pos id, rd, if_pos id, if_pos id, o_tn (by omega), o_s]
          by_cases b3 : t.2.2 146 (dd - 1) = 0
          · rw [if_pos b3, if_pos b3]
          · rw [if_neg b3, if_neg b3]
        · unfold lX9_worked_4 bX9_worked_101
          rw [j5, j6, if_pos ib, w0, o_add, if_neg iw, if_pos im, w1, if_pos i20, if_pos (show o32 (20000 + 10) = 20010 from rfl), less1' hd1 (by omega), if_pos id, rm, if_pos id, if_pos id, o_tn (by omega), o_s]
          by_cases b3 : t.2.2 146 (dd - 1) = 0
          · rw [if_pos b3, if_pos b3]
            rfl
          · rw [if_neg b3, if_neg b3]
            rfl
      · have hj10 : j < 10 := by omega
        rw [if_neg (by omega)] at dn
        have hd2 : 2 ≤ d := by
          by_cases q : 2 ≤ d
          · exact q
          · rw [if_neg q] at dn; cases dn
        rw [if_pos hd2] at dn
        have hd : dd = d - 1 := Option.some.inj dn
        obtain ⟨x, hx⟩ := done_op (o32 (20000 + j)) (t.2.2 146 (d - 1 - 1)) (t.2.2 146 (d - 1))
        have i1 : inb (o32 (d - 1)) 60 := o_inb (by omega) (by omega)
        have i2 : inb (o32 (d - 1 - 1)) 60 := o_inb (by omega) (by omega)
        have rd : ∀ y, y < d → s.2.2 (cw k (29 + 3 * u)) (o32 y).toNatClampNeg = t.2.2 146 y := fun y hy => by rw [o_tn (by omega)]; exact j7 _ hy
        have rm : ∀ y, y < d → t.2.2 146 (o32 y).toNatClampNeg = t.2.2 146 y := fun y hy => by rw [o_tn (by omega)]
        refine fin (d - 1) (d - 1 - 1) x (by rw [hdd, hd]) (by omega) (fun z h1 h2 => by omega) ?_ ?_
        · unfold lX5_value_5_4
          rw [j3, j4, c27, if_neg il, if_neg i60, if_pos ii, c28, if_pos n1, if_neg (fun z => b2 (n2.mp z)), if_neg (by rw [show (2 : Int32) = o32 2 from rfl, o_lt (by omega) (by omega)]; omega), less1 (by omega) (by omega), less1' (by omega) (by omega), if_pos i2, if_pos i1, n3, rd _ (by omega), rd _ (by omega), done_R _ _ j hj10, hx, Option.bind_some, if_pos i2, o_tn (by omega), o_s]
        · unfold lX9_worked_4
          rw [j5, j6, if_pos ib, w0, o_add, if_neg iw, if_pos im, w1, if_pos i20, if_neg (by rw [show (20010 : Int32) = o32 20010 from rfl, o_eq (by omega) (by omega)]; omega), less1 (by omega) (by omega), less1' (by omega) (by omega), if_pos i2, if_pos i1, rm _ (by omega), rm _ (by omega), hx, Option.bind_some, if_pos i2, o_tn (by omega), o_s]
          rfl
  · obtain ⟨d, j1, j2, j3, j4, j5, j6, j7, j8, j9⟩ := hJ
    rw [Nat.zero_add] at j1 j2 j4 j6
    rw [List.take_length, h3] at j1
    have hd : d = 1 := (Option.some.inj j1).symm
    subst hd
    have c27 : s.2.2 (cw k (27 + 3 * u)) 0 = o32 l.length := by rw [j8 _ _ (cw_ne (by omega))]; exact h5
    have w0 : t.2.2 138 (o32 (896 + 62 * u + 1) - 1).toNatClampNeg = o32 l.length := by
      rw [show o32 (896 + 62 * u + 1) - 1 = o32 (896 + 62 * u) from o_sub (b := 1) (by omega) (by omega), o_tn (by omega), j9 _ _ (by omega)]
      exact h4
    have ib : inb (o32 (896 + 62 * u + 1) - 1) 1082 := by
      rw [show o32 (896 + 62 * u + 1) - 1 = o32 (896 + 62 * u) from o_sub (b := 1) (by omega) (by omega)]
      exact o_inb (by omega) (by omega)
    refine ⟨(s.2.2 (cw k (29 + 3 * u)) 0, s.2.2), (t.2.2 146 0, t.2.2), ?_, ?_, j7 0 (by omega), j8, j9⟩
    · unfold lX5_value_5_4 bX5_value_5_144
      rw [j3, j4, c27, if_pos (by rw [o_le (by omega) (by omega)]; omega), if_neg (by decide), if_pos (by decide)]
      rfl
    · unfold lX9_worked_4
      rw [j6, if_pos ib, w0, o_add, if_pos (by rw [o_le (by omega) (by omega)]; omega)]

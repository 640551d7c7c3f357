/-! BOTH: LIQUID OF ONE BUBBLE, THE MODEL'S WAY -/
theorem isLower_m {mr : Mem} {w : Nat → Int32} {k : Nat} {m : Mem} {r : Nat → List Nat} {al : Nat → Bool} {f : Nat → Nat → Nat} {b x : Nat} (hw : ∀ j, 12 ≤ j → j < 812 → mr 138 j = w j) (hF : FR k m w al f) (hg : Gr r al) (hb : b < 16) (alb : al b = true) (hx : x ∈ r b) : fX9_isLower (o32 x) (o32 b) mr = some (i01 (lowB f b x)) := by
  have p := CS_m (k := k) (m := m) hg hb alb hx
  unfold fX9_isLower lowB
  by_cases e : x = 16
  · rw [if_pos ((e16 p.1).mpr e), decide_eq_true e]
    rfl
  · have p2 := p.2 e
    have fx := hF x p2.1 p2.2.1 4 (by omega) (by omega)
    have fb := hF b hb alb 4 (by omega) (by omega)
    have lx : f x 4 ≤ 3 := fx.2.2
    have lb : f b 4 ≤ 3 := fb.2.2
    rw [if_neg (fun z => e ((e16 p.1).mp z)), show fX9_of (o32 x) 4 mr = _ from of_o (f := 4) p2.1 (by omega), show fX9_of (o32 b) 4 mr = _ from of_o (f := 4) hb (by omega), Option.bind_some, Option.bind_some, hw _ (by omega) (by omega), hw _ (by omega) (by omega), fx.1, fb.1, decide_eq_false e]
    by_cases c : f b 4 < f x 4
    · rw [if_neg (by rw [o_le (by omega) (by omega)]; omega), decide_eq_true c]
      rfl
    · rw [if_pos (by rw [o_le (by omega) (by omega)]; omega), decide_eq_false c]
      rfl
theorem tk_low {l : List Nat} {i : Nat} (p : Nat → Bool) (h : i < l.length) : (l.take (i + 1)).filter p = (l.take i).filter p ++ (if p l[i] then [l[i]] else []) := by
  rw [tk1 h, List.filter_append]
  congr 1
  by_cases c : p l[i] = true
  · rw [if_pos c, List.filter_cons_of_pos c]
    rfl
  · rw [if_neg c, List.filter_cons_of_neg c]
    rfl
theorem runs92_s {mr : Mem} {k : Nat} {m : Mem} {w : Nat → Int32} {r : Nat → List Nat} {al : Nat → Bool} {f : Nat → Nat → Nat} {b : Nat} {e : (Int32 × Mem) ⊕ Mem} (g : Int32) (hw : ∀ j, 12 ≤ j → j < 812 → mr 138 j = w j) (hF : FR k m w al f) (hg : Gr r al) (hb : b < 16) (alb : al b = true) (hR : rgAt mr b (r b)) (he : lp (lX9_runs_139 (o32 b) g (o32 (lowL r f b).length)) fu (0, mr) = some e) : lp (lX9_runs_92 (o32 b) g mr) fu (0, 0) = some e := by
  have lb := hR.1
  have e0 : ((0 : Int32), (0 : Int32)) = (o32 (((r b).take 0).filter (lowB f b)).length, o32 0) := by rw [List.take_zero]; rfl
  rw [e0]
  refine lp_fwd (body := lX9_runs_92 (o32 b) g mr) (r b).length (fun i => (o32 (((r b).take i).filter (lowB f b)).length, o32 i)) fu (fun i hi => ?_) ?_ (lt_fu (by omega))
  · unfold lX9_runs_92
    dsimp only
    rw [sd_o hb, hR.2.1, Option.bind_some, if_neg (by rw [o_le (by omega) (by omega)]; omega), rg_o hb (by omega), Option.bind_some, hR.2.2.2 i hi, isLower_m hw hF hg hb alb (List.getElem_mem hi), Option.bind_some, o_s, o_s, tk_low _ hi]
    cases hl : lowB f b (r b)[i] with
    | false =>
      rw [if_pos (by decide), if_neg (by decide), List.append_nil, show o32 (((r b).take i).filter (lowB f b)).length + 0 = _ from o_add _ 0]
      rfl
    | true =>
      rw [if_neg (by decide), if_pos rfl, List.length_append]
      rfl
  · unfold lX9_runs_92
    dsimp only
    rw [sd_o hb, hR.2.1, Option.bind_some, if_pos (by rw [o_le (by omega) (by omega)]; omega), List.take_length]
    show (lp (lX9_runs_139 (o32 b) g (o32 (lowL r f b).length)) fu (0, mr)).map Sum.inr = _
    rw [he]
    rfl
theorem cnt_take {l : List Nat} {x i : Nat} (hi : i < l.length) (hc : l.count l[i] ≤ 1) : l[i] ∉ l.take i := fun z => by
  obtain ⟨j, hj, e⟩ := List.getElem_of_mem z
  have hj2 : j < i := by rw [List.length_take] at hj; omega
  rw [List.getElem_take] at e
  have := count_two hc (by omega) hi e rfl
  omega
/-- the model gives c shares of e to the lower ones, out of b -/
theorem runs139_s {mr : Mem} {k : Nat} {m : Mem} {w : Nat → Int32} {r : Nat → List Nat} {al : Nat → Bool} {f : Nat → Nat → Nat} {b g : Nat} {T : Nat → Nat} (hw : ∀ j, 12 ≤ j → j < 812 → mr 138 j = w j) (hF : FR k m w al f) (hg : Gr r al) (hb : b < 16) (alb : al b = true) (hR : rgAt mr b (r b)) (hg2 : g ≤ 99999) (h0 : 0 < (lowL r f b).length) (hT : ∀ x, x < 16 → al x = true → mr 147 x = o32 (T x) ∧ T x ≤ 10000000) (hTb : g ≤ T b) : ∃ m', lp (lX9_runs_139 (o32 b) (o32 g) (o32 (lowL r f b).length)) fu (0, mr) = some (.inl (o32 (b + 1), m')) ∧ (∀ x, x < 16 → al x = true → m' 147 x = o32 (if x = b then T b - g / (lowL r f b).length * (lowL r f b).length else if x ∈ lowL r f b then T x + g / (lowL r f b).length else T x)) ∧ ∀ c j, c ≠ 147 → m' c j = mr c j := by
  have lb := hR.1
  have l16 := low_16 (f := f) hg hb alb
  have cl : (lowL r f b).length ≤ 30 := Nat.le_trans (List.length_filter_le _ _) (Gr_len hg hb alb)
  have he : o32 g / o32 (lowL r f b).length = o32 (g / (lowL r f b).length) := o_div (by omega) (by omega) h0
  have hge : g / (lowL r f b).length * (lowL r f b).length ≤ g := Nat.div_mul_le_self _ _
  have hL : lowL r f b = (r b).filter (lowB f b) := rfl
  generalize hc : (lowL r f b).length = c at *
  generalize g / c = e at *
  have he1 : e ≤ e * c := Nat.le_mul_of_pos_right _ h0
  refine lp_ix (body := lX9_runs_139 (o32 b) (o32 g) (o32 c)) (fun i s => s.1 = o32 i ∧ (∀ x, x < 16 → al x = true → s.2 147 x = o32 (if x = b then T b - e * (((r b).take i).filter (lowB f b)).length else if x ∈ ((r b).take i).filter (lowB f b) then T x + e else T x)) ∧ ∀ c j, c ≠ 147 → s.2 c j = mr c j) (fun q => ∃ m', q = .inl (o32 (b + 1), m') ∧ (∀ x, x < 16 → al x = true → m' 147 x = o32 (if x = b then T b - e * c else if x ∈ lowL r f b then T x + e else T x)) ∧ ∀ c j, c ≠ 147 → m' c j = mr c j) (r b).length 0 ((0 : Int32), mr) fu ⟨rfl, fun x hx ax => by
      rw [List.take_zero, List.filter_nil, List.length_nil, Nat.mul_zero, Nat.sub_zero, if_neg (List.not_mem_nil (a := x))]
      refine (hT x hx ax).1.trans ?_
      by_cases e : x = b
      · rw [if_pos e, e]
      · rw [if_neg e], fun _ _ _ => rfl⟩ (fun i s _ hi hI => ?_) (fun s hI => ?_) (lt_fu (by omega)) |> fun ⟨q, q1, m', q2, q3⟩ => ⟨m', by rw [q1, q2], q3⟩
  · obtain ⟨i1, i2, i3⟩ := hI
    have hi : i < (r b).length := by omega
    have R2 : rgAt s.2 b (r b) := rgAt_142 hR (fun j => i3 138 j (by omega))
    have px := CS_m (k := k) (m := m) hg hb alb (List.getElem_mem hi)
    have lw := isLower_m (mr := s.2) (fun j h1 h2 => (i3 138 j (by omega)).trans (hw j h1 h2)) hF hg hb alb (List.getElem_mem hi)
    have tl := tk_low (lowB f b) hi
    have cx : (r b)[i] ≠ 16 → (r b)[i] ∉ (r b).take i := fun h => cnt_take (x := 0) hi (hg.2.1 b hb alb _ h)
    have lem := low_mem (r := r) (f := f) (b := b) (x := (r b)[i])
    unfold lX9_runs_139
    rw [sd_o hb, R2.2.1, Option.bind_some, i1, if_neg (by rw [o_le (by omega) (by omega)]; omega), if_neg (by rw [show (0 : Int32) = o32 0 from rfl, o_le (by omega) (by omega)]; omega), rg_o hb (by omega), Option.bind_some, R2.2.2.2 i hi, lw, Option.bind_some]
    cases hl : lowB f b (r b)[i] with
    | false =>
      rw [hl, if_neg (by decide), List.append_nil] at tl
      rw [if_pos (by decide), o_s]
      exact ⟨_, rfl, rfl, fun x hx ax => by rw [tl]; exact i2 x hx ax, i3⟩
    | true =>
      have hml : (r b)[i] ∈ lowL r f b := by
        rw [hL]
        exact List.mem_filter.mpr ⟨List.getElem_mem hi, hl⟩
      have p2 := px.2 (lem.mp hml).2.1
      have cx2 := cx (lem.mp hml).2.1
      rw [hl, if_pos rfl] at tl
      generalize (r b)[i] = y at *
      have hz : ¬ o32 c = 0 := by
        rw [show (0 : Int32) = o32 0 from rfl, o_eq (by omega) (by omega)]
        omega
      have yb : y ≠ b := p2.2.2.1
      have vy := i2 y p2.1 p2.2.1
      rw [if_neg yb, if_neg (fun z => cx2 (List.mem_filter.mp z).1)] at vy
      have vb := i2 b hb alb
      rw [if_pos rfl] at vb
      have ty := hT y p2.1 p2.2.1
      have tb := hT b hb alb
      have lt1 : (((r b).take i).filter (lowB f b)).length + 1 ≤ c := by
        rw [← hc, hL]
        have h1 : (((r b).take (i + 1)).filter (lowB f b)).length ≤ ((r b).filter (lowB f b)).length := List.Sublist.length_le (List.Sublist.filter _ (List.take_sublist _ _))
        rw [tl, List.length_append] at h1
        exact h1
      have mul1 : e * ((((r b).take i).filter (lowB f b)).length + 1) ≤ e * c := Nat.mul_le_mul_left _ lt1
      rw [Nat.mul_add, Nat.mul_one] at mul1
      rw [if_neg (by decide), if_pos (o_inb p2.1 (by omega)), if_pos hz, if_pos (o_inb p2.1 (by omega)), if_pos (o_inb hb (by omega)), if_pos hz, if_pos (o_inb hb (by omega)), he, o_tn (show y < 2147483648 by omega), o_tn (show b < 2147483648 by omega), vy, o_add, mput_j _ _ _ _ (fun z => yb z.symm), vb, o_sub (by omega) (by omega), o_s]
      refine ⟨_, rfl, rfl, fun x hx ax => ?_, fun z j hz2 => ?_⟩
      · dsimp only
        rw [tl, List.length_append, List.length_singleton, Nat.mul_add, Nat.mul_one, mput_get, mput_get]
        by_cases e1 : x = b
        · rw [if_pos ⟨rfl, e1⟩, if_pos e1]
          congr 1
          omega
        · rw [if_neg (fun z => e1 z.2), if_neg e1]
          by_cases e2 : x = y
          · rw [if_pos ⟨rfl, e2⟩, if_pos (List.mem_append_right _ (List.mem_singleton.mpr e2)), e2]
          · rw [if_neg (fun z => e2 z.2), i2 x hx ax, if_neg e1]
            by_cases e3 : x ∈ ((r b).take i).filter (lowB f b)
            · rw [if_pos e3, if_pos (List.mem_append_left _ e3)]
            · rw [if_neg e3, if_neg (fun z => by
                rcases List.mem_append.mp z with z | z
                · exact e3 z
                · exact e2 (List.mem_singleton.mp z))]
      · dsimp only
        rw [mput_c _ _ _ hz2, mput_c _ _ _ hz2]
        exact i3 z j hz2
  · obtain ⟨i1, i2, i3⟩ := hI
    rw [Nat.zero_add] at i1 i2
    rw [List.take_length] at i2
    have R2 : rgAt s.2 b (r b) := rgAt_142 hR (fun j => i3 138 j (by omega))
    unfold lX9_runs_139 bX9_runs_209
    rw [sd_o hb, R2.2.1, Option.bind_some, i1, if_pos (by rw [o_le (by omega) (by omega)]; omega), if_neg (by rw [show (0 : Int32) = o32 0 from rfl, o_eq (by omega) (by omega)]; omega), o_s]
    refine ⟨_, rfl, s.2, rfl, fun x hx ax => ?_, i3⟩
    rw [i2 x hx ax, ← hL, hc]

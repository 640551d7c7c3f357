/-! THE CLASS: A WALL BURSTS, THE WHOLE -/
noncomputable def uniF (k : Nat) (m : Mem) (a b c j : Nat) : Int32 := if c = cw k 5 ∧ j = a then fJ9_min_7cf53 99999 (m (cw k 5) a + m (cw k 5) b) else if c = cw k 4 ∧ j = a then fJ9_min_7cf53 99999 (m (cw k 4) a + m (cw k 4) b) else if c = cw k 3 ∧ j = a then 6 else m c j
theorem uni_end {k : Nat} {m : Mem} {r1 : Nat → List Nat} {al : Nat → Bool} {a b : Nat} {sw : List Nat} (ha : a < 16) (hb : b < 16) (ala : al a = true) (alb : al b = true) (hs : CS k m r1 al) (h30 : sw.length ≤ 30) (h16 : ∀ x ∈ sw, x ≤ 16) (hj : ∀ i, i < sw.length → m (cw k 25) i = o32 (sw.getD i 0)) : ∃ m', lX0_unite_43 k (o32 a) (o32 b) (o32 sw.length) (16, m) = some (.inr (mput m' (cw k 2) 8 (m (cw k 2) 8 + 1))) ∧ CS k m' (setR r1 a sw) (offB al b) ∧ ∀ c j, ¬ (c = cw k 2 ∧ j = 0) → c ≠ cw k 7 → (∀ b, b < 16 → c ≠ cw k (9 + b)) → m' c j = uniF k m a b c j := by
  have S := uniM_CS (b := b) ha ala hs h30 h16 hj
  obtain ⟨m', e1, s1, o1⟩ := bury_c S hb alb
  have R4 : ∀ x v w, (mput (mput (mcpy m (cw k 25) (cw k (9 + a)) 0 0 sw.length) (cw k 7) a v) (cw k 3) a w) (cw k 4) x = m (cw k 4) x := fun x v w => by
    rw [mput_c _ _ _ (cw_ne (by omega)), mput_c _ _ _ (cw_ne (by omega)), mcpy_c _ _ _ _ (cw_ne (by omega))]
  have R5 : ∀ x u v w, (mput (mput (mput (mcpy m (cw k 25) (cw k (9 + a)) 0 0 sw.length) (cw k 7) a v) (cw k 3) a w) (cw k 4) a u) (cw k 5) x = m (cw k 5) x := fun x u v w => by
    rw [mput_c _ _ _ (cw_ne (by omega)), mput_c _ _ _ (cw_ne (by omega)), mput_c _ _ _ (cw_ne (by omega)), mcpy_c _ _ _ _ (cw_ne (by omega))]
  have e8 : m' (cw k 2) 8 = m (cw k 2) 8 := by
    rw [o1 _ _ (by omega) (fun z => absurd z.1 (cw_ne (by omega)))]
    unfold uniM
    rw [mput_c _ _ _ (cw_ne (by omega)), mput_c _ _ _ (cw_ne (by omega)), mput_c _ _ _ (cw_ne (by omega)), mput_c _ _ _ (cw_ne (by omega)), mcpy_c _ _ _ _ (cw_ne (by omega))]
  refine ⟨m', ?_, s1, fun c j h1 h2 h3 => ?_⟩
  · have key : ∀ z, z = uniM k m a b sw → ((fX0_bury k (o32 b) z).bind fun q18 => (some (.inr (mput q18 (cw k 2) 8 ((q18 (cw k 2) 8) + (1 : Int32)))) : Option ((Int32 × Mem) ⊕ Mem))) = some (.inr (mput m' (cw k 2) 8 (m (cw k 2) 8 + 1))) := fun z hz => by
      rw [hz, e1, Option.bind_some, e8]
    have ia := o_inb ha (show a < 2147483648 by omega)
    have ib := o_inb hb (show b < 2147483648 by omega)
    have ic : cpin 0 0 (o32 sw.length) 30 30 := ⟨by decide, by decide, o_ge0 (by omega), by rw [o_tn (by omega)]; show 0 + _ ≤ _; omega, by rw [o_tn (by omega)]; show 0 + _ ≤ _; omega⟩
    have ta : (o32 a).toNatClampNeg = a := o_tn (by omega)
    have tb : (o32 b).toNatClampNeg = b := o_tn (by omega)
    have ts : (o32 sw.length).toNatClampNeg = sw.length := o_tn (by omega)
    unfold lX0_unite_43
    dsimp only
    rw [if_pos (by decide), if_pos ia, if_pos ic, if_pos ia, if_pos ia, if_pos ia, if_pos ib, if_pos ia, if_pos ia, if_pos ib, if_pos ia, ta, tb, ts]
    refine key _ ?_
    unfold uniM
    rw [R4, R4, R5, R5]
  · rw [o1 _ _ h1 (fun z => h2 z.1)]
    unfold uniM uniF
    rw [mput_get, mput_get, mput_get, mput_c _ _ _ h2, mcpy_c _ _ _ _ (h3 a ha)]
theorem uni_loop {k : Nat} {m : Mem} {r : Nat → List Nat} {al : Nat → Bool} {a b : Nat} {sw : List Nat} (ha : a < 16) (hb : b < 16) (hab : a ≠ b) (ala : al a = true) (alb : al b = true) (hg : Gr r al) (hs : CS k m r al) (h30 : sw.length ≤ 30) (h16 : ∀ x ∈ sw, x ≤ 16) (hj : ∀ i, i < sw.length → m (cw k 25) i = o32 (sw.getD i 0)) : ∃ m', lp (lX0_unite_43 k (o32 a) (o32 b) (o32 sw.length)) fu (0, m) = some (mput m' (cw k 2) 8 (m (cw k 2) 8 + 1)) ∧ CS k m' (setR (burX r al a b 16) a sw) (offB al b) ∧ ∀ c j, ¬ (c = cw k 2 ∧ j = 0) → c ≠ cw k 7 → (∀ b, b < 16 → c ≠ cw k (9 + b)) → m' c j = uniF k m a b c j := by
  have key := lp_ix (body := lX0_unite_43 k (o32 a) (o32 b) (o32 sw.length)) (fun i s => s.1 = o32 i ∧ CS k s.2 (burX r al a b i) al ∧ frC k m s.2) (fun e => ∃ m', e = mput m' (cw k 2) 8 (m (cw k 2) 8 + 1) ∧ CS k m' (setR (burX r al a b 16) a sw) (offB al b) ∧ ∀ c j, ¬ (c = cw k 2 ∧ j = 0) → c ≠ cw k 7 → (∀ b, b < 16 → c ≠ cw k (9 + b)) → m' c j = uniF k m a b c j) 16 0 (0, m) fu ⟨rfl, by
      have e : burX r al a b 0 = r := by funext y; unfold burX; rw [if_neg (by omega)]
      rw [e]
      exact hs, frC_rf⟩ (fun x s _ hx hI => ?_) (fun s hI => ?_) (lt_fu (by omega))
  · obtain ⟨e, e1, m', e2, e3⟩ := key
    exact ⟨m', by rw [← e2]; exact e1, e3⟩
  · obtain ⟨i1, i2, i3⟩ := hI
    have hx : x < 16 := by omega
    have bx : burX r al a b x x = r x := by unfold burX; rw [if_neg (by omega)]
    have same : (x ≠ a → x ≠ b → al x = true → b ∉ r x) → burX r al a b (x + 1) = burX r al a b x := fun h => by
      funext y
      unfold burX
      by_cases e : y = x
      · subst e
        rw [if_neg (fun z => h z.2.1 z.2.2.1 z.2.2.2.1 z.2.2.2.2), if_neg (by omega)]
      · by_cases e2 : y < x
        · simp only [show (y < x + 1) = True by simp; omega, show (y < x) = True by simp; omega]
        · simp only [show (y < x + 1) = False by simp; omega, show (y < x) = False by simp; omega]
    unfold lX0_unite_43
    rw [i1, if_neg (not_16 hx)]
    by_cases q1 : x = a
    · rw [if_pos (by rw [q1]), o_s]
      exact ⟨_, rfl, rfl, by rw [same (fun h => absurd q1 h)]; exact i2, i3⟩
    · rw [if_neg (by rw [o_eq (by omega) (by omega)]; exact q1), placeOf_d i2 hx (by omega), bx, Option.bind_some]
      by_cases q4 : x ≠ b ∧ al x = true ∧ b ∈ r x
      · obtain ⟨q2, q3, q5⟩ := q4
        have sx := CS_g i2 hx q3
        rw [bx] at sx
        obtain ⟨m', e1, s1, o1⟩ := stand_c (a := a) hx ha hb q5 sx
        rw [q3, if_pos rfl, if_neg (fun z => (plc_neg (by have := sx.1; omega)).mp z q5), e1, Option.bind_some, o_s]
        have new : burX r al a b (x + 1) = setR (burX r al a b x) x (stand (r x) a b) := by
          funext y
          unfold burX setR
          by_cases e : y = x
          · rw [e, if_pos ⟨by omega, q1, q2, q3, q5⟩, if_pos rfl]
          · rw [if_neg e]
            by_cases e2 : y < x
            · simp only [show (y < x + 1) = True by simp; omega, show (y < x) = True by simp; omega]
            · simp only [show (y < x + 1) = False by simp; omega, show (y < x) = False by simp; omega]
        refine ⟨_, rfl, rfl, ?_, frC_tr i3 (frC_of hx o1)⟩
        rw [new]
        exact CS_set i2 q3 o1 s1
      · have hneg : (if al x = true then plc (r x) b else -1) < 0 := by
          by_cases q3 : al x = true
          · have sx := CS_g i2 hx q3
            rw [bx] at sx
            rw [if_pos q3]
            refine (plc_neg (by have := sx.1; omega)).mpr (fun q5 => q4 ⟨fun q2 => ?_, q3, q5⟩)
            rw [q2] at q5
            exact ((hg.1 b hb alb b q5).2 (by omega)).2.1 rfl
          · rw [if_neg q3]
            decide
        rw [if_pos hneg, o_s]
        exact ⟨_, rfl, rfl, by rw [same (fun _ h2 h3 h5 => q4 ⟨h2, h3, h5⟩)]; exact i2, i3⟩
  · obtain ⟨i1, i2, i3⟩ := hI
    rw [Nat.zero_add] at i1 i2
    obtain ⟨s1, s2⟩ := s
    dsimp only at i1 i2 i3
    subst i1
    obtain ⟨m', e1, c1, f1⟩ := uni_end ha hb ala alb i2 h30 h16 (fun i hi => by rw [i3 _ _ (cw_ne (by omega)) (fun b _ => cw_ne (by omega))]; exact hj i hi)
    have f2 := fun c j (h1 : c ≠ cw k 7) (h2 : ∀ b, b < 16 → c ≠ cw k (9 + b)) => i3 c j h1 h2
    rw [f2 _ _ (cw_ne (by omega)) (fun b _ => cw_ne (by omega))] at e1
    refine ⟨_, e1, m', rfl, c1, fun c j h1 h2 h3 => ?_⟩
    rw [f1 c j h1 h2 h3]
    unfold uniF
    rw [f2 (cw k 5) a (cw_ne (by omega)) (fun b _ => cw_ne (by omega)), f2 (cw k 5) b (cw_ne (by omega)) (fun b _ => cw_ne (by omega)), f2 (cw k 4) a (cw_ne (by omega)) (fun b _ => cw_ne (by omega)), f2 (cw k 4) b (cw_ne (by omega)) (fun b _ => cw_ne (by omega)), f2 c j h2 h3]
theorem unite_lo {k : Nat} {m : Mem} {r : Nat → List Nat} {al : Nat → Bool} {a b x y : Nat} (ha : a < 16) (hb : b < 16) (hne : a ≠ b) (hs : CS k m r al) (hg : Gr r al) (hf : FC r al) (ala : al a = true) (alb : al b = true) (hab : b ∈ r a) (hcd : prv (r a) b ≠ nxt (r a) b) (hc : ∀ x, x ∈ r a → x ∈ r b → x = prv (r a) b ∨ x = nxt (r a) b)
    (hx : min x y = a) (hy : max x y = b) (hx16 : x < 16) (hy16 : y < 16) : ∃ m', fX0_unite k (o32 x) (o32 y) m = some (mput m' (cw k 2) 8 (m (cw k 2) 8 + 1)) ∧ CS k m' (burR r al a b) (offB al b) ∧ ∀ c j, ¬ (c = cw k 2 ∧ j = 0) → c ≠ cw k 7 → (∀ b, b < 16 → c ≠ cw k (9 + b)) → c ≠ cw k 25 → m' c j = uniF k m a b c j := by
  have G := burst_Gr ha hb hne hg hf ala alb hab hcd hc
  have ea : burR r al a b a = seam r a b := setR_at _ _ _
  have aa : offB al b a = true := offB_t.mpr ⟨ala, hne⟩
  have l30 := Gr_len G ha aa
  rw [ea] at l30
  obtain ⟨_, B, _, _, _, _, _, _, lb⟩ := faces_ab ha hb hg hf ala alb hab hcd
  have hba : a ∈ r b := ((hg.1 a ha ala b hab).2 (by omega)).2.2
  have J := join_c ha hb hs ala alb hab hba (by omega) l30
  unfold fX0_unite
  rw [min_o (by omega) (by omega), max_o (by omega) (by omega), hx, hy, has_c hs ha, has_c hs hb, ala, alb, if_neg (by decide), if_neg (by decide), J, Option.bind_some]
  have S2 : CS k (swC k m (seam r a b) (seam r a b).length) r al := CS_same hs (fun c j hc => swC_ne (by
    rcases hc with hc | hc | ⟨z, hz, hc⟩
    · rw [hc.1]; exact cw_ne (by omega)
    · rw [hc]; exact cw_ne (by omega)
    · rw [hc]; exact cw_ne (by omega)))
  obtain ⟨m', e1, c1, f1⟩ := uni_loop ha hb hne ala alb hg S2 l30 (fun x hx => (G.1 a ha aa x (by rw [ea]; exact hx)).1) (fun i hi => by unfold swC; rw [if_pos ⟨rfl, hi⟩])
  rw [swC_ne (cw_ne (by omega))] at e1
  refine ⟨m', e1, c1, fun c j h1 h2 h3 h4 => ?_⟩
  rw [f1 c j h1 h2 h3]
  unfold uniF
  rw [swC_ne (cw_ne (by omega)), swC_ne (cw_ne (by omega)), swC_ne (cw_ne (by omega)), swC_ne (cw_ne (by omega)), swC_ne h4]
theorem mayBur_of {r : Nat → List Nat} {a b : Nat} (hm : mayBur r a b = true) : prv (r a) b ≠ nxt (r a) b ∧ ∀ x, x ∈ r a → x ∈ r b → x = prv (r a) b ∨ x = nxt (r a) b := by
  unfold mayBur at hm
  simp only [Bool.and_eq_true, Bool.not_eq_true', decide_eq_false_iff_not] at hm
  obtain ⟨⟨hcd, _⟩, hall⟩ := hm
  refine ⟨hcd, fun x h1 h2 => ?_⟩
  have e := List.all_eq_true.mp hall x h1
  unfold okB at e
  simp only [Bool.or_eq_true, decide_eq_true_eq, Bool.not_eq_true', decide_eq_false_iff_not] at e
  rcases e with (e | e) | e
  · exact .inl e
  · exact .inr e
  · exact absurd h2 e
/-- what both ends of a wall that bursts see, told from the lesser one on -/
theorem mayBur_lo {r : Nat → List Nat} {al : Nat → Bool} {a b : Nat} (ha : a < 16) (hb : b < 16) (hg : Gr r al) (hf : FC r al) (ala : al a = true) (alb : al b = true) (hab : b ∈ r a) (hm : mayBur r a b = true) : max a b ∈ r (min a b) ∧ prv (r (min a b)) (max a b) ≠ nxt (r (min a b)) (max a b) ∧ ∀ x, x ∈ r (min a b) → x ∈ r (max a b) → x = prv (r (min a b)) (max a b) ∨ x = nxt (r (min a b)) (max a b) := by
  obtain ⟨hcd, hc⟩ := mayBur_of hm
  have hba : a ∈ r b := ((hg.1 a ha ala b hab).2 (by omega)).2.2
  rcases Nat.lt_or_ge a b with h | h
  · rw [show min a b = a by omega, show max a b = b by omega]
    exact ⟨hab, hcd, hc⟩
  · rw [show min a b = b by omega, show max a b = a by omega]
    have f1 : prv (r b) a = nxt (r a) b := (hf a ha ala b hab (by omega)).symm
    have f2 : nxt (r b) a = prv (r a) b := hf b hb alb a hba (by omega)
    refine ⟨hba, by rw [f1, f2]; exact Ne.symm hcd, fun x h1 h2 => ?_⟩
    rw [f1, f2]
    exact (hc x h2 h1).symm

section
/-! THE FOAM's own methods keep what must hold of the model's rings -/
noncomputable def MI (m : Mem) : Prop := ∃ r al, Gr r al ∧ FC r al ∧ RS m r al
/-- all but the rings, the counts of turns, vanishings and burstings, and what was found, stays -/
noncomputable def Fz (m m' : Mem) : Prop := ∀ c j, ¬ (c = 138 ∧ ((12 ≤ j ∧ j < 812) ∨ (8 ≤ j ∧ j ≤ 10))) → c ≠ 141 → c ≠ 142 → m' c j = m c j
theorem RS_same {m m' : Mem} {r : Nat → List Nat} {al : Nat → Bool} (h : RS m r al) (e : ∀ j, 12 ≤ j → j < 812 → m' 138 j = m 138 j) : RS m' r al := fun b hb => ⟨by rw [e _ (by omega) (by omega)]; exact (h b hb).1, fun ha => rgAt_same ((h b hb).2 ha) (fun z h1 h2 => e z (by omega) (by omega))⟩
theorem within_n {x : Int32} (h : fX9_within x 0 15 ≠ 0) : ∃ n, n < 16 ∧ x = o32 n := by
  unfold fX9_within at h
  by_cases h1 : x < 0
  · rw [if_pos h1] at h; exact absurd rfl h
  · rw [if_neg h1] at h
    by_cases h2 : (15 : Int32) < x
    · rw [if_pos h2] at h; exact absurd rfl h
    · rw [Int32.lt_iff_toInt_lt] at h1 h2
      have e0 : (0 : Int32).toInt = 0 := rfl
      have e15 : (15 : Int32).toInt = 15 := rfl
      rw [e0] at h1
      rw [e15] at h2
      refine ⟨x.toInt.toNat, by omega, Int32.toInt_inj.mp ?_⟩
      rw [o_ti (by omega)]
      omega
theorem fnd1 (m : Mem) : fX9_finding (-1000001) m = some (-1000001, mput m 141 1 (m 141 1 + 1)) := by
  unfold fX9_finding
  rw [if_pos (by decide), if_pos (by decide)]
  rfl
theorem fnd3 (m : Mem) : fX9_finding (-1000003) m = some (-1000003, mput m 141 3 (m 141 3 + 1)) := by
  unfold fX9_finding
  rw [if_pos (by decide), if_pos (by decide)]
  rfl
theorem MI_141 {m : Mem} {k : Nat} {v : Int32} (h : MI m) : MI (mput m 141 k v) ∧ Fz m (mput m 141 k v) := by
  obtain ⟨r, al, g, f, s⟩ := h
  exact ⟨⟨r, al, g, f, RS_same s (fun j _ _ => by rw [mput_get, if_neg (by omega)])⟩, fun c j _ h1 _ => by rw [mput_get, if_neg (fun z => h1 z.1)]⟩
theorem is_any {m : Mem} {r : Nat → List Nat} {al : Nat → Bool} (hs : RS m r al) (x : Int32) : fX9_is x m = some 0 ∨ ∃ n, n < 16 ∧ x = o32 n ∧ al n = true ∧ fX9_is x m = some 1 := by
  by_cases h : fX9_within x 0 15 = 0
  · left; unfold fX9_is; rw [if_pos h]
  · obtain ⟨n, hn, e⟩ := within_n h
    subst e
    have := is_s hn hs
    by_cases ha : al n = true
    · right; rw [ha] at this; exact ⟨n, hn, rfl, ha, this⟩
    · left
      rw [Bool.eq_false_iff.mpr ha] at this
      exact this
theorem two_any {m : Mem} {r : Nat → List Nat} {al : Nat → Bool} (hs : RS m r al) (x y : Int32) : fX9_areTwo x y m = some 0 ∨ ∃ a b, a < 16 ∧ b < 16 ∧ a ≠ b ∧ x = o32 a ∧ y = o32 b ∧ al a = true ∧ al b = true ∧ fX9_areTwo x y m = some 1 := by
  unfold fX9_areTwo
  rcases is_any hs x with h | ⟨a, ha, ea, ala, h⟩
  · left; rw [h, Option.bind_some, if_pos rfl]
  · rw [h, Option.bind_some, if_neg (by decide)]
    rcases is_any hs y with h | ⟨b, hb, eb, alb, h⟩
    · left; rw [h, Option.bind_some, if_pos rfl]
    · rw [h, Option.bind_some, if_neg (by decide)]
      by_cases e : x = y
      · left; rw [if_pos e]
      · right
        rw [if_neg e]
        exact ⟨a, b, ha, hb, fun z => e (by rw [ea, eb, z]), ea, eb, ala, alb, rfl⟩
theorem wall_any {m : Mem} {r : Nat → List Nat} {al : Nat → Bool} {a b : Nat} (hs : RS m r al) (ha : a < 16) (hb : b < 16) (ala : al a = true) : (b ∈ r a ∧ fX9_isWall (o32 a) (o32 b) m = some 1) ∨ (b ∉ r a ∧ fX9_isWall (o32 a) (o32 b) m = some 0) := by
  have := isWall_s ha (show b ≤ 16 by omega) ((hs a ha).2 ala)
  by_cases h : b ∈ r a
  · rw [if_pos h] at this; exact .inl ⟨h, this⟩
  · rw [if_neg h] at this; exact .inr ⟨h, this⟩
/-- a turn that may be, at the machine -/
theorem turns_op {m : Mem} {r : Nat → List Nat} {al : Nat → Bool} {a b : Nat} (ha : a < 16) (hb : b < 16) (hs : RS m r al) (hg : Gr r al) (hf : FC r al) (ala : al a = true) (alb : al b = true) (hab : b ∈ r a) (ht : mayTurn r a b) : ∃ m', fX9_turns (o32 a) (o32 b) m = some m' ∧ Gr (turnR r a b) al ∧ FC (turnR r a b) al ∧ RS m' (turnR r a b) al ∧ Fz m m' := by
  obtain ⟨t1, t2, t3, t4⟩ := ht
  obtain ⟨m', e, s, fr⟩ := turns_s ha hb hs hg ala alb hab t1 t3
  refine ⟨_, e, turn_Gr ha hb hg ala alb hab t1 t2 t3 t4, turn_FC ha hb hg hf ala alb hab t1 t2 t3 t4, RS_put s (.inl (by omega)), fun c j h1 h2 h3 => ?_⟩
  rw [mput_get, if_neg (fun z => h1 ⟨z.1, by omega⟩)]
  exact fr c j (fun z => by obtain ⟨z1, b', z2, z3, z4⟩ := z; exact h1 ⟨z1, by omega⟩)
theorem vans_op {m : Mem} {r : Nat → List Nat} {al : Nat → Bool} {a : Nat} (ha : a < 16) (hs : RS m r al) (hg : Gr r al) (hf : FC r al) (ala : al a = true) (h3 : (r a).length = 3) : ∃ m', fX9_vanishes (o32 a) m = some m' ∧ Gr (outR r a (r a)) (offB al a) ∧ FC (outR r a (r a)) (offB al a) ∧ RS m' (outR r a (r a)) (offB al a) ∧ Fz m m' := by
  obtain ⟨m', e, s, fr, _⟩ := vanishes_s ha hs hg ala
  refine ⟨_, e, van_Gr ha hg, van_FC ha ala hg hf h3, RS_put s (.inl (by omega)), fun c j h1 h2 h3 => ?_⟩
  rw [mput_get, if_neg (fun z => h1 ⟨z.1, by omega⟩)]
  exact fr c j (fun z => h1 ⟨z.1, by omega⟩)
theorem burs_lo {m : Mem} {r : Nat → List Nat} {al : Nat → Bool} {a b x y : Nat} (ha : a < 16) (hb : b < 16) (hne : a ≠ b) (hs : RS m r al) (hg : Gr r al) (hf : FC r al) (ala : al a = true) (alb : al b = true) (hab : b ∈ r a) (hcd : prv (r a) b ≠ nxt (r a) b) (hc : ∀ x, x ∈ r a → x ∈ r b → x = prv (r a) b ∨ x = nxt (r a) b)
    (hx : min x y = a) (hy : max x y = b) (hx16 : x < 16) (hy16 : y < 16) (hxy : x ≠ y) (alx : al x = true) (aly : al y = true) : ∃ m', fX9_bursts (o32 x) (o32 y) m = some (o32 a, m') ∧ Gr (burR r al a b) (offB al b) ∧ FC (burR r al a b) (offB al b) ∧ RS m' (burR r al a b) (offB al b) ∧ Fz m m' := by
  obtain ⟨m1, e, s, fr⟩ := bursts_s hx16 hy16 hxy hs hg alx aly (by rw [hx, hy]; exact hab)
  rw [hx, hy] at e s
  have G := burst_Gr ha hb hne hg hf ala alb hab hcd hc
  have ea : burR r al a b a = seam r a b := setR_at _ _ _
  have aa : offB al b a = true := offB_t.mpr ⟨ala, hne⟩
  have l30 := Gr_len G ha aa
  rw [ea] at l30
  obtain ⟨S, F⟩ := burM_RS ha hb hne s (sw := seam r a b) (by omega) (fun x hx => (G.1 a ha aa x (by rw [ea]; exact hx)).1)
  refine ⟨_, e, G, burst_FC ha hb hne hg hf ala alb hab hcd hc, RS_put S (.inl (by omega)), fun c j h1 h2 h3 => ?_⟩
  rw [mput_get, if_neg (fun z => h1 ⟨z.1, by omega⟩), F c j (fun z => h1 ⟨z.1, by omega⟩)]
  exact fr c j (fun z => by obtain ⟨z1, b', z2, z3, z4⟩ := z; exact h1 ⟨z1, by omega⟩) h3
theorem burs_op {m : Mem} {r : Nat → List Nat} {al : Nat → Bool} {a b : Nat} (ha : a < 16) (hb : b < 16) (hne : a ≠ b) (hs : RS m r al) (hg : Gr r al) (hf : FC r al) (ala : al a = true) (alb : al b = true) (hab : b ∈ r a) (hm : mayBur r a b = true) : ∃ m', fX9_bursts (o32 a) (o32 b) m = some (o32 (min a b), m') ∧ Gr (burR r al (min a b) (max a b)) (offB al (max a b)) ∧ FC (burR r al (min a b) (max a b)) (offB al (max a b)) ∧ RS m' (burR r al (min a b) (max a b)) (offB al (max a b)) ∧ Fz m m' := by
  unfold mayBur at hm
  simp only [Bool.and_eq_true, Bool.not_eq_true', decide_eq_false_iff_not] at hm
  obtain ⟨⟨hcd, _⟩, hall⟩ := hm
  have hc : ∀ x, x ∈ r a → x ∈ r b → x = prv (r a) b ∨ x = nxt (r a) b := fun x h1 h2 => by
    have e := List.all_eq_true.mp hall x h1
    unfold okB at e
    simp only [Bool.or_eq_true, decide_eq_true_eq, Bool.not_eq_true', decide_eq_false_iff_not] at e
    rcases e with (e | e) | e
    · exact .inl e
    · exact .inr e
    · exact absurd h2 e
  have hba : a ∈ r b := ((hg.1 a ha ala b hab).2 (by omega)).2.2
  rcases Nat.lt_or_ge a b with h | h
  · rw [show min a b = a by omega, show max a b = b by omega]
    exact burs_lo ha hb hne hs hg hf ala alb hab hcd hc (by omega) (by omega) ha hb hne ala alb
  · rw [show min a b = b by omega, show max a b = a by omega]
    have f1 : prv (r b) a = nxt (r a) b := (hf a ha ala b hab (by omega)).symm
    have f2 : nxt (r b) a = prv (r a) b := hf b hb alb a hba (by omega)
    refine burs_lo hb ha hne.symm hs hg hf alb ala hba (by rw [f1, f2]; exact Ne.symm hcd) (fun x h1 h2 => ?_) (by omega) (by omega) ha hb hne ala alb
    rw [f1, f2]
    exact (hc x h2 h1).symm
theorem turn_op {m : Mem} (x y : Int32) (h : MI m) : ∃ v m', fX9_turn x y m = some (v, m') ∧ MI m' ∧ Fz m m' := by
  have h0 := h
  obtain ⟨r, al, g, f, s⟩ := h
  have no : ∃ v m', bX9_turn_34 m = some (v, m') ∧ MI m' ∧ Fz m m' := by
    unfold bX9_turn_34
    rw [fnd3]
    exact ⟨_, _, rfl, MI_141 h0⟩
  unfold fX9_turn
  rcases two_any s x y with e | ⟨a, b, ha, hb, hne, ex, ey, ala, alb, e⟩
  · rw [e, Option.bind_some, if_pos rfl, fnd1]
    exact ⟨_, _, rfl, MI_141 h0⟩
  · rw [e, Option.bind_some, if_neg (by decide)]
    subst ex ey
    rcases wall_any s ha hb ala with ⟨hw, e2⟩ | ⟨hw, e2⟩
    · rw [e2, Option.bind_some, if_neg (by decide)]
      obtain ⟨v, e3, h3⟩ := canTurn_s ha hb s g ala alb hw
      rw [e3, Option.bind_some]
      rcases h3 with ⟨hv, ht⟩ | ⟨hv, _⟩
      · rw [hv, if_neg (by decide)]
        obtain ⟨m', e4, g4, f4, s4, z4⟩ := turns_op ha hb s g f ala alb hw ht
        rw [e4, Option.bind_some, sd_o ha, Option.bind_some]
        exact ⟨_, _, rfl, ⟨_, _, g4, f4, s4⟩, z4⟩
      · rw [hv, if_pos rfl]
        exact no
    · rw [e2, Option.bind_some, if_pos rfl]
      exact no
theorem burst_op {m : Mem} (x y : Int32) (h : MI m) : ∃ v m', fX9_burst x y m = some (v, m') ∧ MI m' ∧ Fz m m' := by
  have h0 := h
  obtain ⟨r, al, g, f, s⟩ := h
  have no : ∃ v m', bX9_burst_34 m = some (v, m') ∧ MI m' ∧ Fz m m' := by
    unfold bX9_burst_34
    rw [fnd3]
    exact ⟨_, _, rfl, MI_141 h0⟩
  unfold fX9_burst
  rcases two_any s x y with e | ⟨a, b, ha, hb, hne, ex, ey, ala, alb, e⟩
  · rw [e, Option.bind_some, if_pos rfl, fnd1]
    exact ⟨_, _, rfl, MI_141 h0⟩
  · rw [e, Option.bind_some, if_neg (by decide)]
    subst ex ey
    rcases wall_any s ha hb ala with ⟨hw, e2⟩ | ⟨hw, e2⟩
    · rw [e2, Option.bind_some, if_neg (by decide), canBurst_s ha hb s g ala alb hw, Option.bind_some]
      by_cases hm : mayBur r a b = true
      · rw [hm, if_neg (by decide)]
        obtain ⟨m', e4, g4, f4, s4, z4⟩ := burs_op ha hb hne s g f ala alb hw hm
        rw [e4, Option.bind_some]
        exact ⟨_, _, rfl, ⟨_, _, g4, f4, s4⟩, z4⟩
      · rw [Bool.eq_false_iff.mpr hm, if_pos (show i01 false = 0 from rfl)]
        exact no
    · rw [e2, Option.bind_some, if_pos rfl]
      exact no
theorem many_op (m : Mem) : ∃ v, fX9_many m = some v := by
  have key := lp_ix (body := lX9_many_4 m) (fun i s => s.2 = o32 i) (fun _ => True) 16 0 ((0 : Int32), (0 : Int32)) fu rfl (fun i s _ h2 hi => ?_) (fun s hi => ?_) (lt_fu (by omega))
  · obtain ⟨e, e1, _⟩ := key
    exact ⟨e, e1⟩
  · obtain ⟨s1, s2⟩ := s
    dsimp only at hi
    subst hi
    have o0 : fX9_of (o32 i) 0 m = some (m 138 (12 + 50 * i + 0)) := of_o (f := 0) (by omega) (by omega)
    have nl : ¬ (16 : Int32) ≤ o32 i := fun z => by
      have := (o_le (a := 16) (by omega) (by omega)).mp z
      omega
    refine ⟨(s1 + m 138 (12 + 50 * i + 0), o32 i + 1), ?_, by show o32 i + 1 = _; rw [o_s]⟩
    unfold lX9_many_4
    dsimp only
    rw [if_neg nl, o0]
    rfl
  · obtain ⟨s1, s2⟩ := s
    dsimp only at hi
    subst hi
    refine ⟨s1, ?_, trivial⟩
    unfold lX9_many_4
    dsimp only
    rw [if_pos (show (16 : Int32) ≤ o32 (0 + 16) by decide)]
theorem vanish_op {m : Mem} (x : Int32) (h : MI m) : ∃ v m', fX9_vanish x m = some (v, m') ∧ MI m' ∧ Fz m m' := by
  have h0 := h
  obtain ⟨r, al, g, f, s⟩ := h
  have no : ∃ v m', bX9_vanish_32 m = some (v, m') ∧ MI m' ∧ Fz m m' := by
    unfold bX9_vanish_32
    rw [fnd3]
    exact ⟨_, _, rfl, MI_141 h0⟩
  unfold fX9_vanish
  rcases is_any s x with e | ⟨a, ha, ea, ala, e⟩
  · rw [e, Option.bind_some, if_pos rfl, fnd1]
    exact ⟨_, _, rfl, MI_141 h0⟩
  · rw [e, Option.bind_some, if_neg (by decide)]
    subst ea
    have ra := (s a ha).2 ala
    rw [sd_o ha, ra.2.1, Option.bind_some]
    by_cases h3 : (r a).length = 3
    · rw [if_pos (show o32 (r a).length = 3 by rw [h3]; rfl), canVanish_s ha s g ala, Option.bind_some]
      by_cases hm : mayVan r a = true
      · rw [hm, if_neg (by decide)]
        obtain ⟨m', e4, g4, f4, s4, z4⟩ := vans_op ha s g f ala h3
        obtain ⟨v, e5⟩ := many_op m'
        rw [e4, Option.bind_some, e5, Option.bind_some]
        exact ⟨_, _, rfl, ⟨_, _, g4, f4, s4⟩, z4⟩
      · rw [Bool.eq_false_iff.mpr hm, if_pos (show i01 false = 0 from rfl)]
        exact no
    · have := ra.1
      have n3 : ¬ o32 (r a).length = 3 := fun z => h3 ((o_eq (b := 3) (by omega) (by omega)).mp z)
      rw [if_neg n3]
      exact no
end
section
/-! the model's tick: its first turn, its texts at work -/
noncomputable def Fw (m m' : Mem) : Prop := (∀ c j, c ≠ 138 → c ≠ 141 → c ≠ 142 → c ≠ 145 → c ≠ 146 → c ≠ 147 → m' c j = m c j) ∧ (∀ j, j = 1 ∨ j = 2 ∨ j = 4 ∨ j = 5 ∨ j = 6 ∨ j = 11 ∨ 812 ≤ j → m' 138 j = m 138 j)
theorem Fw_refl (m : Mem) : Fw m m := ⟨fun _ _ _ _ _ _ _ _ => rfl, fun _ _ => rfl⟩
theorem Fw_trans {m m1 m2 : Mem} (h1 : Fw m m1) (h2 : Fw m1 m2) : Fw m m2 := ⟨fun c j a1 a2 a3 a4 a5 a6 => (h2.1 c j a1 a2 a3 a4 a5 a6).trans (h1.1 c j a1 a2 a3 a4 a5 a6), fun j h => (h2.2 j h).trans (h1.2 j h)⟩
theorem Fw_Fz {m m' : Mem} (h : Fz m m') : Fw m m' := ⟨fun c j a1 a2 a3 _ _ _ => h c j (fun z => a1 z.1) a2 a3, fun j hj => h 138 j (fun z => by omega) (by omega) (by omega)⟩
theorem MI_fld {m : Mem} {n f : Nat} {v : Int32} (hf1 : 1 ≤ f) (hf4 : f ≤ 4) (h : MI m) : MI (mput m 138 (12 + 50 * n + f) v) := by
  obtain ⟨r, al, g, fc, s⟩ := h
  refine ⟨r, al, g, fc, fun b hb => ⟨by rw [mput_get, if_neg (by omega)]; exact (s b hb).1, fun ha => ?_⟩⟩
  obtain ⟨h1, h2, h3, h4⟩ := (s b hb).2 ha
  exact ⟨h1, by rw [mput_get, if_neg (by omega)]; exact h2, h3, fun i hi => by rw [mput_get, if_neg (by omega)]; exact h4 i hi⟩
theorem MI_far {m : Mem} {c j : Nat} {v : Int32} (hf : c ≠ 138 ∨ j < 12 ∨ 812 ≤ j) (h : MI m) : MI (mput m c j v) := by
  obtain ⟨r, al, g, fc, s⟩ := h
  exact ⟨r, al, g, fc, RS_same s (fun i h1 h2 => by rw [mput_get, if_neg (by omega)])⟩
theorem Fw_put {m : Mem} {c j : Nat} {v : Int32} (h : (c = 138 ∧ j < 812 ∧ (j = 0 ∨ j = 3 ∨ (7 ≤ j ∧ j ≤ 10) ∨ 12 ≤ j)) ∨ c = 141 ∨ c = 142 ∨ c = 145 ∨ c = 146 ∨ c = 147) : Fw m (mput m c j v) := ⟨fun c' j' a1 a2 a3 a4 a5 a6 => by rw [mput_get, if_neg (by omega)], fun j' hj => by rw [mput_get, if_neg (by omega)]⟩
theorem leastIn_op {m : Mem} {b : Nat} {l : List Nat} (hb : b < 16) (h : rgAt m b l) : ∃ k, fX9_leastIn (o32 b) m = some (o32 k) ∧ (k = 0 ∨ k < l.length) := by
  have hl := h.1
  have key := lp_inv (body := lX9_leastIn_4 (o32 b) m) (fun s => ∃ k i, s = (o32 k, o32 i) ∧ (k = 0 ∨ k < l.length) ∧ 1 ≤ i ∧ i ≤ 45) (fun s => 100 - s.2.toNatClampNeg) (fun e => ∃ k, e = o32 k ∧ (k = 0 ∨ k < l.length)) (fun s hs => ?_) fu ((0 : Int32), (1 : Int32)) ⟨0, 1, rfl, .inl rfl, by omega, by omega⟩ (lt_fu (by omega))
  · obtain ⟨e, e1, k, e2, e3⟩ := key
    exact ⟨k, by unfold fX9_leastIn; rw [e1, e2], e3⟩
  · obtain ⟨k, i, e, hk, h1, h2⟩ := hs
    subst e
    unfold lX9_leastIn_4
    dsimp only
    rw [sd_o hb, h.2.1, Option.bind_some]
    by_cases hi : l.length ≤ i
    · right
      rw [if_pos ((o_le (by omega) (by omega)).mpr hi)]
      exact ⟨_, rfl, k, rfl, hk⟩
    · left
      rw [if_neg (fun z => hi ((o_le (by omega) (by omega)).mp z)), rg_o hb (by omega), Option.bind_some, rg_o hb (by omega), Option.bind_some]
      have dec : 100 - (o32 i + 1).toNatClampNeg < 100 - (o32 i).toNatClampNeg := by rw [o_s, o_tn (by omega), o_tn (by omega)]; omega
      split
      · exact ⟨_, rfl, ⟨k, i + 1, by rw [o_s], hk, by omega, by omega⟩, dec⟩
      · exact ⟨_, rfl, ⟨i, i + 1, by rw [o_s], .inr (by omega), by omega, by omega⟩, dec⟩
theorem turnsFirst_op {m : Mem} {r : Nat → List Nat} {al : Nat → Bool} {a : Nat} (ha : a < 16) (hs : RS m r al) (hg : Gr r al) (hf : FC r al) (ala : al a = true) : ∃ m', fX9_turnsFirst (o32 a) m = some m' ∧ MI m' ∧ Fz m m' := by
  have ra := (hs a ha).2 ala
  have hl := ra.1
  obtain ⟨k, ek, hk⟩ := leastIn_op ha ra
  have hM : MI m := ⟨r, al, hg, hf, hs⟩
  have key := lp_inv (body := lX9_turnsFirst_18 (o32 a) (o32 k) (o32 (r a).length)) (fun s => ∃ i, i ≤ 44 ∧ s.2.1 = o32 i ∧ ((s.1 = 0 ∧ s.2.2 = m) ∨ (s.1 = 1 ∧ MI s.2.2 ∧ Fz m s.2.2))) (fun s => 100 - s.2.1.toNatClampNeg) (fun e => MI e ∧ Fz m e) (fun s h => ?_) fu ((0 : Int32), (0 : Int32), m) ⟨0, by omega, rfl, .inl ⟨rfl, rfl⟩⟩ (lt_fu (by omega))
  · obtain ⟨e, e1, e2⟩ := key
    refine ⟨e, ?_, e2⟩
    unfold fX9_turnsFirst
    rw [ek, Option.bind_some, sd_o ha, ra.2.1, Option.bind_some, e1]
  · obtain ⟨s1, s2, s3⟩ := s
    obtain ⟨i, hi, e2, h3⟩ := h
    dsimp only at e2 h3
    subst e2
    have fin : MI s3 ∧ Fz m s3 := by
      rcases h3 with ⟨_, e⟩ | ⟨_, e⟩
      · rw [e]; exact ⟨hM, fun _ _ _ _ _ => rfl⟩
      · exact e
    unfold lX9_turnsFirst_18
    dsimp only
    by_cases hn : (r a).length ≤ i
    · right
      rw [if_pos ((o_le (by omega) (by omega)).mpr hn)]
      exact ⟨_, rfl, fin⟩
    · rw [if_neg (fun z => hn ((o_le (by omega) (by omega)).mp z))]
      rcases h3 with ⟨e1, e3⟩ | ⟨e1, e3⟩
      · subst e1 e3
        left
        have dec : 100 - (o32 i + 1).toNatClampNeg < 100 - (o32 i).toNatClampNeg := by rw [o_s, o_tn (by omega), o_tn (by omega)]; omega
        rw [if_pos rfl, o_add]
        obtain ⟨z, hz, ez⟩ : ∃ z, ∃ hz : z < (r a).length, fX9_at (o32 a) (o32 (k + i)) s3 = some (o32 ((r a)[z])) := by
          by_cases q : k + i < (r a).length
          · exact ⟨k + i, q, at_s ha ra q (.inl (by rw [o_ti (by omega)]))⟩
          · exact ⟨k + i - (r a).length, by omega, at_s ha ra (by omega) (.inr (.inl (by rw [o_ti (by omega)]; omega)))⟩
        rw [ez, Option.bind_some]
        have hm := List.getElem_mem hz
        generalize (r a)[z] = b at hm
        have pb := hg.1 a ha ala b hm
        have b16 : o32 b = 16 ↔ b = 16 := o_eq (b := 16) (by omega) (by omega)
        by_cases q : b = 16
        · rw [if_pos (b16.mpr q)]
          exact ⟨_, rfl, ⟨i + 1, by omega, by show o32 i + 1 = _; rw [o_s], .inl ⟨rfl, rfl⟩⟩, dec⟩
        · rw [if_neg (fun w => q (b16.mp w))]
          have pb2 := pb.2 q
          obtain ⟨v, e4, h4⟩ := canTurn_s ha (show b < 16 by omega) hs hg ala pb2.1 hm
          rw [e4, Option.bind_some]
          rcases h4 with ⟨hv, ht⟩ | ⟨hv, _⟩
          · rw [hv, if_neg (by decide)]
            obtain ⟨m', e5, g5, f5, s5, z5⟩ := turns_op ha (show b < 16 by omega) hs hg hf ala pb2.1 hm ht
            rw [e5, Option.bind_some]
            exact ⟨_, rfl, ⟨i + 1, by omega, by show o32 i + 1 = _; rw [o_s], .inr ⟨rfl, ⟨_, _, g5, f5, s5⟩, z5⟩⟩, dec⟩
          · rw [hv, if_pos rfl]
            exact ⟨_, rfl, ⟨i + 1, by omega, by show o32 i + 1 = _; rw [o_s], .inl ⟨rfl, rfl⟩⟩, dec⟩
      · right
        rw [if_neg (by rw [e1]; decide)]
        exact ⟨_, rfl, fin⟩
/-- the end of a tick: vanishings and turns where no gas is left -/
theorem tickEnd_op {m : Mem} (h : MI m) : ∃ m', lp lX9_ticks_14 fu ((0 : Int32), m) = some m' ∧ MI m' ∧ Fw m m' := by
  refine (lp_ix (body := lX9_ticks_14) (fun i s => s.1 = o32 i ∧ MI s.2 ∧ Fw m s.2) (fun e => MI e ∧ Fw m e) 16 0 ((0 : Int32), m) fu ⟨rfl, h, Fw_refl m⟩ (fun i s _ h2 hi => ?_) (fun s hi => ?_) (lt_fu (by omega)))
  · obtain ⟨s1, s2⟩ := s
    obtain ⟨e1, hM, hF⟩ := hi
    dsimp only at e1 hM hF
    subst e1
    have hM0 := hM
    obtain ⟨r, al, g, f, s⟩ := hM
    have nl : ¬ (16 : Int32) ≤ o32 i := fun z => by
      have := (o_le (a := 16) (by omega) (by omega)).mp z
      omega
    have i16 : i < 16 := by omega
    have go : ∀ m2, MI m2 → Fw s2 m2 → ∃ s', (some (.inl ((o32 i + 1), m2)) : Option ((Int32 × Mem) ⊕ Mem)) = some (.inl s') ∧ s'.1 = o32 (i + 1) ∧ MI s'.2 ∧ Fw m s'.2 := fun m2 h1 h2 => ⟨_, rfl, by show o32 i + 1 = _; rw [o_s], h1, Fw_trans hF h2⟩
    have o2 : fX9_of (o32 i) 2 s2 = some (s2 138 (12 + 50 * i + 2)) := of_o (f := 2) i16 (by omega)
    unfold lX9_ticks_14
    dsimp only
    rw [if_neg nl, is_s i16 s, Option.bind_some]
    by_cases hal : al i = true
    · have ra := (s i i16).2 hal
      have hl := ra.1
      rw [hal, if_neg (by decide), o2, Option.bind_some]
      by_cases q : s2 138 (12 + 50 * i + 2) = 0
      · rw [if_pos q, sd_o i16, ra.2.1, Option.bind_some]
        by_cases q3 : o32 (r i).length ≤ 3
        · rw [if_pos q3, Option.bind_some]
          by_cases q4 : o32 (r i).length = 3
          · have h3 : (r i).length = 3 := (o_eq (b := 3) (by omega) (by omega)).mp q4
            rw [if_pos q4, canVanish_s i16 s g hal, Option.bind_some]
            by_cases hm : mayVan r i = true
            · rw [hm, if_neg (by decide)]
              obtain ⟨m', e4, g4, f4, s4, z4⟩ := vans_op i16 s g f hal h3
              rw [e4, Option.bind_some]
              exact go _ ⟨_, _, g4, f4, s4⟩ (Fw_Fz z4)
            · rw [Bool.eq_false_iff.mpr hm, if_pos (show i01 false = 0 from rfl)]
              exact go _ hM0 (Fw_refl _)
          · rw [if_neg q4]
            exact go _ hM0 (Fw_refl _)
        · rw [if_neg q3]
          obtain ⟨m', e4, h4, z4⟩ := turnsFirst_op i16 s g f hal
          rw [e4, Option.bind_some]
          exact go _ h4 (Fw_Fz z4)
      · rw [if_neg q]
        exact go _ hM0 (Fw_refl _)
    · rw [Bool.eq_false_iff.mpr hal, if_pos (show i01 false = 0 from rfl)]
      exact go _ hM0 (Fw_refl _)
  · obtain ⟨s1, s2⟩ := s
    obtain ⟨e1, hM, hF⟩ := hi
    dsimp only at e1 hM hF
    subst e1
    refine ⟨mput s2 138 0 (s2 138 0 + 1), ?_, MI_far (.inr (.inl (by omega))) hM, Fw_trans hF (Fw_put (by omega))⟩
    unfold lX9_ticks_14
    dsimp only
    rw [if_pos (show (16 : Int32) ≤ o32 (0 + 16) by decide)]
end
section
/-! the model's texts at work -/
noncomputable def okC (v : Int32) (d d' : Nat) : Prop := (20000 ≤ v ∧ ((v = 20010 ∧ 1 ≤ d ∧ d' = d) ∨ (v ≠ 20010 ∧ 2 ≤ d ∧ d' + 1 = d))) ∨ (¬ 20000 ≤ v ∧ (10000 ≤ v → inb (v - 10000) 5) ∧ d' = d + 1)
/-- the three texts are rows that a pile of 60 can work -/
noncomputable def TX (m : Mem) : Prop := ∀ i, i < 3 → ∃ n, n ≤ 60 ∧ m 138 (896 + 62 * i) = o32 n ∧ ∃ dep : Nat → Nat, dep 0 = 0 ∧ ∀ k, k < n → okC (m 138 (896 + 62 * i + 1 + k)) (dep k) (dep (k + 1))
theorem TX_same {m m' : Mem} (h : TX m) (e : ∀ j, 812 ≤ j → m' 138 j = m 138 j) : TX m' := fun i hi => by
  obtain ⟨n, h1, h2, dep, h3, h4⟩ := h i hi
  exact ⟨n, h1, by rw [e _ (by omega)]; exact h2, dep, h3, fun k hk => by rw [e _ (by omega)]; exact h4 k hk⟩
theorem ite_s {p : Prop} [Decidable p] {a b : Option Int32} (ha : p → ∃ w, a = some w) (hb : ¬ p → ∃ w, b = some w) : ∃ w, (if p then a else b) = some w := by
  by_cases h : p
  · rw [if_pos h]; exact ha h
  · rw [if_neg h]; exact hb h
theorem some_s (v : Int32) : ∃ w, some v = some w := ⟨v, rfl⟩
theorem done_op (a b c : Int32) : ∃ w, fX9_done a b c = some w := by
  unfold fX9_done
  refine ite_s (fun _ => ite_s (fun _ => ite_s (fun _ => some_s _) (fun _ => some_s _)) (fun _ => some_s _)) (fun _ => ?_)
  refine ite_s (fun _ => ite_s (fun _ => some_s _) (fun _ => ite_s (fun _ => some_s _) (fun _ => some_s _))) (fun _ => ?_)
  refine ite_s (fun _ => ite_s (fun _ => some_s _) (fun _ => some_s _)) (fun _ => ?_)
  refine ite_s (fun _ => ite_s (fun _ => some_s _) (fun _ => some_s _)) (fun _ => ?_)
  refine ite_s (fun _ => ite_s (fun _ => some_s _) (fun _ => some_s _)) (fun _ => ?_)
  refine ite_s (fun _ => some_s _) (fun _ => ?_)
  refine ite_s (fun _ => some_s _) (fun _ => ?_)
  refine ite_s (fun _ => some_s _) (fun _ => ?_)
  refine ite_s (fun _ => ite_s (fun _ => some_s _) (fun h => ite_s (fun _ => some_s _) (fun h2 => absurd h h2))) (fun _ => ?_)
  exact ite_s (fun _ => some_s _) (fun h => ite_s (fun _ => some_s _) (fun h2 => absurd h h2))
theorem less1 {d : Nat} (h : 1 ≤ d) (h2 : d < 1000) : o32 d + -1 = o32 (d - 1) := by
  rw [← Int32.sub_eq_add_neg]
  exact o_sub (b := 1) h (by omega)
theorem less1' {d : Nat} (h : 1 ≤ d) (h2 : d < 100000) : o32 d - 1 = o32 (d - 1) := o_sub (b := 1) h (by omega)
noncomputable def F146 (m m' : Mem) : Prop := ∀ c j, c ≠ 145 → c ≠ 146 → m' c j = m c j
theorem worked_op {m : Mem} {i : Nat} (hi : i < 3) (h : TX m) : ∃ v m', fX9_worked (o32 (896 + 62 * i + 1)) m = some (v, m') ∧ F146 m m' := by
  obtain ⟨n, h1, h2, dep, h3, h4⟩ := h i hi
  have dle : ∀ k, k ≤ n → dep k ≤ k := fun k => by
    induction k with
    | zero => intro _; omega
    | succ k ih =>
      intro hk
      have := ih (by omega)
      rcases h4 k (by omega) with ⟨_, ⟨_, _, e⟩ | ⟨_, _, e⟩⟩ | ⟨_, _, e⟩ <;> omega
  have e0 : o32 (896 + 62 * i + 1) - 1 = o32 (896 + 62 * i) := less1' (by omega) (by omega)
  have key := lp_ix (body := lX9_worked_4 (o32 (896 + 62 * i + 1))) (fun k s => s.1 = o32 (dep k) ∧ s.2.1 = o32 (896 + 62 * i + 1 + k) ∧ F146 m s.2.2) (fun e => F146 m e.2) n 0 ((0 : Int32), o32 (896 + 62 * i + 1), m) fu ⟨by rw [h3]; rfl, rfl, fun _ _ _ _ => rfl⟩ (fun k s _ hk hI => ?_) (fun s hI => ?_) (lt_fu (by omega))
  · obtain ⟨⟨v, m'⟩, e1, e2⟩ := key
    exact ⟨v, m', e1, e2⟩
  · obtain ⟨s1, s2, s3⟩ := s
    obtain ⟨q1, q2, q3⟩ := hI
    dsimp only at q1 q2 q3
    subst q1 q2
    have hd := dle k (by omega)
    have en : s3 138 (896 + 62 * i) = o32 n := by rw [q3 _ _ (by omega) (by omega), h2]
    have ec : s3 138 (896 + 62 * i + 1 + k) = m 138 (896 + 62 * i + 1 + k) := q3 _ _ (by omega) (by omega)
    have fr : ∀ j v, F146 m (mput s3 146 j v) := fun j v c z a1 a2 => by rw [mput_get, if_neg (fun w => a2 w.1)]; exact q3 c z a1 a2
    unfold lX9_worked_4
    dsimp only
    have nle : ¬ o32 (896 + 62 * i + 1) + s3 138 (896 + 62 * i) ≤ o32 (896 + 62 * i + 1 + k) := fun z => by
      rw [en, o_add] at z
      have := (o_le (by omega) (by omega)).mp z
      omega
    rw [e0, if_pos (o_inb (by omega) (by omega)), o_tn (by omega), if_neg nle, if_pos (o_inb (by omega) (by omega)), o_tn (by omega)]
    have ok := h4 k (by omega)
    rw [← ec] at ok
    rcases ok with ⟨g1, ⟨g2, g3, g4⟩ | ⟨g2, g3, g4⟩⟩ | ⟨g1, g2, g3⟩
    · rw [if_pos g1, if_pos g2, less1' g3 (by omega), if_pos (o_inb (by omega) (by omega))]
      unfold bX9_worked_101
      rw [if_pos (o_inb (by omega) (by omega)), if_pos (o_inb (by omega) (by omega))]
      split
      · exact ⟨_, rfl, by rw [g4], by show o32 _ + 1 = _; rw [o_s]; rfl, fr _ _⟩
      · exact ⟨_, rfl, by rw [g4], by show o32 _ + 1 = _; rw [o_s]; rfl, fr _ _⟩
    · rw [if_pos g1, if_neg g2, less1 (by omega) (by omega), less1' (by omega) (by omega), if_pos (o_inb (by omega) (by omega)), if_pos (o_inb (by omega) (by omega))]
      obtain ⟨w, ew⟩ := done_op (s3 138 (896 + 62 * i + 1 + k)) (s3 146 (o32 (dep k - 1 - 1)).toNatClampNeg) (s3 146 (o32 (dep k - 1)).toNatClampNeg)
      rw [ew, Option.bind_some, if_pos (o_inb (by omega) (by omega))]
      exact ⟨_, rfl, by show o32 (dep k - 1) = _; rw [show dep k - 1 = dep (k + 1) by omega], by show o32 _ + 1 = _; rw [o_s]; rfl, fr _ _⟩
    · rw [if_neg g1]
      have psh : ∀ y2, ∃ s', bX9_worked_63 (o32 (896 + 62 * i + 1)) (o32 (dep k)) (o32 (896 + 62 * i + 1 + k)) (o32 (dep k)) y2 s3 = some (.inl s') ∧ s'.1 = o32 (dep (k + 1)) ∧ s'.2.1 = o32 (896 + 62 * i + 1 + (k + 1)) ∧ F146 m s'.2.2 := fun y2 => by
        unfold bX9_worked_63
        rw [if_pos (o_inb (by omega) (by omega))]
        exact ⟨_, rfl, by show o32 _ + 1 = _; rw [o_s, g3], by show o32 _ + 1 = _; rw [o_s]; rfl, fr _ _⟩
      by_cases g5 : 10000 ≤ s3 138 (896 + 62 * i + 1 + k)
      · rw [if_pos g5, if_pos (g2 g5)]
        exact psh _
      · rw [if_neg g5]
        exact psh _
  · obtain ⟨s1, s2, s3⟩ := s
    obtain ⟨q1, q2, q3⟩ := hI
    dsimp only at q1 q2 q3
    subst q1 q2
    have en : s3 138 (896 + 62 * i) = o32 n := by rw [q3 _ _ (by omega) (by omega), h2]
    refine ⟨(s3 146 0, s3), ?_, q3⟩
    unfold lX9_worked_4
    dsimp only
    have le : o32 (896 + 62 * i + 1) + s3 138 (896 + 62 * i) ≤ o32 (896 + 62 * i + 1 + (0 + n)) := by
      rw [en, o_add]
      exact (o_le (by omega) (by omega)).mpr (by omega)
    rw [e0, if_pos (o_inb (by omega) (by omega)), o_tn (by omega), if_pos le]
theorem hasText_op {m : Mem} {i : Nat} (hi : i < 3) : fX9_hasText (o32 i) m = some 0 ∨ fX9_hasText (o32 i) m = some 1 := by
  have e : (896 : Int32) + 62 * o32 i = o32 (896 + 62 * i) := by
    show o32 896 + o32 62 * o32 i = _
    rw [o_mul, o_add]
  unfold fX9_hasText
  rw [e, if_pos (o_inb (by omega) (by omega))]
  split
  · exact .inl rfl
  · exact .inr rfl
theorem given_op {m : Mem} {i : Nat} (hi : i < 3) (h : TX m) (a b c d e : Int32) : ∃ v m', fX9_given (o32 i) a b c d e m = some (v, m') ∧ F146 m m' := by
  have e1 : (896 : Int32) + 62 * o32 i + 1 = o32 (896 + 62 * i + 1) := by
    show o32 896 + o32 62 * o32 i + o32 1 = _
    rw [o_mul, o_add, o_add]
  unfold fX9_given
  let m5 := mput (mput (mput (mput (mput m 145 0 a) 145 1 b) 145 2 c) 145 3 d) 145 4 e
  have f5 : F146 m m5 := fun c' j h1 h2 => by
    show mput (mput (mput (mput (mput m 145 0 a) 145 1 b) 145 2 c) 145 3 d) 145 4 e c' j = _
    rw [mput_get, if_neg (by omega), mput_get, if_neg (by omega), mput_get, if_neg (by omega), mput_get, if_neg (by omega), mput_get, if_neg (by omega)]
  rw [show mput (mput (mput (mput (mput m 145 0 a) 145 1 b) 145 2 c) 145 3 d) 145 4 e = m5 from rfl]
  rcases hasText_op (m := m5) hi with q | q
  · rw [q, Option.bind_some, if_pos rfl]
    exact ⟨_, _, rfl, f5⟩
  · rw [q, Option.bind_some, if_neg (by decide), e1]
    obtain ⟨v, m', w1, w2⟩ := worked_op hi (TX_same h (fun j _ => f5 138 j (by omega) (by omega)))
    rw [w1, Option.bind_some]
    exact ⟨_, _, rfl, fun c' j h1 h2 => (w2 c' j h1 h2).trans (f5 c' j h1 h2)⟩
end
section
/-! the model's tick: gas that passes, walls that burst -/
theorem MI_146 {m m' : Mem} (h : MI m) (f : F146 m m') : MI m' ∧ Fw m m' := by
  obtain ⟨r, al, g, fc, s⟩ := h
  exact ⟨⟨r, al, g, fc, RS_same s (fun j _ _ => f 138 j (by omega) (by omega))⟩, fun c j _ _ _ a4 a5 _ => f c j a4 a5, fun j _ => f 138 j (by omega) (by omega)⟩
theorem TX_Fw {m m' : Mem} (h : TX m) (f : Fw m m') : TX m' := TX_same h (fun j hj => f.2 j (by omega))
theorem letsOf_op {m : Mem} {a : Nat} (ha : a < 16) : ∃ w, fX9_letsOf (o32 a) m = some w := by
  have o1 : fX9_of (o32 a) 1 m = some (m 138 (12 + 50 * a + 1)) := of_o (f := 1) ha (by omega)
  unfold fX9_letsOf
  rw [o1, Option.bind_some]
  exact ite_s (fun _ => some_s _) (fun _ => ite_s (fun _ => some_s _) (fun _ => ite_s (fun _ => some_s _) (fun _ => ite_s (fun _ => some_s _) (fun _ => some_s _))))
theorem dryOf_op {m : Mem} {a : Nat} (ha : a < 16) : ∃ w, fX9_dryOf (o32 a) m = some w := by
  have o1 : fX9_of (o32 a) 1 m = some (m 138 (12 + 50 * a + 1)) := of_o (f := 1) ha (by omega)
  unfold fX9_dryOf
  rw [o1, Option.bind_some]
  exact ite_s (fun _ => some_s _) (fun _ => ite_s (fun _ => some_s _) (fun _ => ite_s (fun _ => some_s _) (fun _ => some_s _)))
theorem passesBy_op {m : Mem} {a b : Nat} (ha : a < 16) (hb : b < 16) (h : TX m) : ∃ v m', fX9_passesBy (o32 a) (o32 b) m = some (v, m') ∧ F146 m m' := by
  have fin : ∀ y m1, F146 m m1 → ∃ v m', bX9_passesBy_57 (o32 a) (o32 b) y m1 = some (v, m') ∧ F146 m m' := fun y m1 f1 => by
    obtain ⟨w1, e1⟩ := letsOf_op (m := m1) ha
    obtain ⟨w2, e2⟩ := letsOf_op (m := m1) hb
    unfold bX9_passesBy_57
    rw [e1, Option.bind_some, e2, Option.bind_some]
    exact ⟨_, _, rfl, f1⟩
  have o2 : ∀ {x : Nat}, x < 16 → fX9_of (o32 x) 2 m = some (m 138 (12 + 50 * x + 2)) := fun hx => of_o (f := 2) hx (by omega)
  have q : fX9_hasText 0 m = some 0 ∨ fX9_hasText 0 m = some 1 := hasText_op (i := 0) (by omega)
  unfold fX9_passesBy
  rcases q with q | q
  · rw [q, Option.bind_some, if_pos rfl, sd_o hb, Option.bind_some, sd_o ha, Option.bind_some]
    exact fin _ _ (fun _ _ _ _ => rfl)
  · rw [q, Option.bind_some, if_neg (by decide), sd_o ha, Option.bind_some, sd_o hb, Option.bind_some, o2 ha, Option.bind_some, o2 hb, Option.bind_some]
    obtain ⟨v, m', e, f⟩ := given_op (i := 0) (by omega) h (m 138 (12 + 50 * a + 5)) (m 138 (12 + 50 * b + 5)) (m 138 (12 + 50 * a + 2)) (m 138 (12 + 50 * b + 2)) (m 138 0)
    have e' : fX9_given 0 (m 138 (12 + 50 * a + 5)) (m 138 (12 + 50 * b + 5)) (m 138 (12 + 50 * a + 2)) (m 138 (12 + 50 * b + 2)) (m 138 0) m = some (v, m') := e
    rw [e', Option.bind_some]
    exact fin _ _ f
theorem isDry_op {m : Mem} {a b : Nat} (ha : a < 16) (hb : b < 16) (h : TX m) : ∃ v m', fX9_isDry (o32 a) (o32 b) m = some (v, m') ∧ F146 m m' := by
  have o3 : ∀ {x : Nat}, x < 16 → fX9_of (o32 x) 3 m = some (m 138 (12 + 50 * x + 3)) := fun hx => of_o (f := 3) hx (by omega)
  have q : fX9_hasText 1 m = some 0 ∨ fX9_hasText 1 m = some 1 := hasText_op (i := 1) (by omega)
  unfold fX9_isDry
  rw [o3 ha, Option.bind_some, o3 hb, Option.bind_some]
  rcases q with q | q
  · obtain ⟨w1, e1⟩ := dryOf_op (m := m) ha
    obtain ⟨w2, e2⟩ := dryOf_op (m := m) hb
    rw [q, Option.bind_some, if_pos rfl, e1, Option.bind_some, e2, Option.bind_some]
    split
    · exact ⟨_, _, rfl, fun _ _ _ _ => rfl⟩
    · split
      · exact ⟨_, _, rfl, fun _ _ _ _ => rfl⟩
      · exact ⟨_, _, rfl, fun _ _ _ _ => rfl⟩
  · rw [q, Option.bind_some, if_neg (by decide), Option.bind_some, Option.bind_some, sd_o ha, Option.bind_some, sd_o hb, Option.bind_some]
    obtain ⟨v, m', e, f⟩ := given_op (i := 1) (by omega) h (fJ9_min_7cf53 (m 138 (12 + 50 * a + 3)) (m 138 (12 + 50 * b + 3))) (fJ9_max_7cf53 (m 138 (12 + 50 * a + 3)) (m 138 (12 + 50 * b + 3))) (m 138 (12 + 50 * a + 5)) (m 138 (12 + 50 * b + 5)) (m 138 0)
    have e' : fX9_given 1 (fJ9_min_7cf53 (m 138 (12 + 50 * a + 3)) (m 138 (12 + 50 * b + 3))) (fJ9_max_7cf53 (m 138 (12 + 50 * a + 3)) (m 138 (12 + 50 * b + 3))) (m 138 (12 + 50 * a + 5)) (m 138 (12 + 50 * b + 5)) (m 138 0) m = some (v, m') := e
    rw [e', Option.bind_some]
    split
    · exact ⟨_, _, rfl, f⟩
    · exact ⟨_, _, rfl, f⟩
theorem gives_op {m : Mem} {a b : Nat} (ha : a < 16) (hb : b < 16) (x : Int32) (h : MI m) : ∃ m', fX9_gives (o32 a) (o32 b) x m = some m' ∧ MI m' ∧ Fw m m' := by
  have o2 : ∀ {x : Nat} {m : Mem}, x < 16 → fX9_of (o32 x) 2 m = some (m 138 (12 + 50 * x + 2)) := fun hx => of_o (f := 2) hx (by omega)
  have t2 : ∀ {x : Nat} {v : Int32} {m : Mem}, x < 16 → fX9_tells (o32 x) 2 v m = some (mput m 138 (12 + 50 * x + 2) v) := fun hx => tl_o (f := 2) hx (by omega)
  unfold fX9_gives
  rw [o2 ha, Option.bind_some, o2 hb, Option.bind_some, Option.bind_some, t2 ha, Option.bind_some, o2 hb, Option.bind_some, t2 hb, Option.bind_some]
  exact ⟨_, rfl, MI_fld (by omega) (by omega) (MI_fld (by omega) (by omega) h), Fw_trans (Fw_put (by omega)) (Fw_put (by omega))⟩
theorem passesAll_op {m : Mem} (h : MI m) (ht : TX m) : ∃ m', fX9_passesAll m = some m' ∧ MI m' ∧ Fw m m' := by
  have inner : ∀ i, i < 16 → ∀ m0, MI m0 → Fw m m0 → ∃ m', lp (lX9_passesAll_12 (o32 i)) fu (o32 i + 1, m0) = some (.inl (o32 (i + 1), m')) ∧ MI m' ∧ Fw m m' := fun i hi m0 hM0 hF0 => by
    have key := lp_ix (body := lX9_passesAll_12 (o32 i)) (fun k s => s.1 = o32 k ∧ MI s.2 ∧ Fw m s.2) (fun e => ∃ m', e = .inl (o32 (i + 1), m') ∧ MI m' ∧ Fw m m') (15 - i) (i + 1) (o32 i + 1, m0) fu ⟨by show o32 i + 1 = _; rw [o_s], hM0, hF0⟩ (fun j s _ hj hI => ?_) (fun s hI => ?_) (lt_fu (by omega))
    · obtain ⟨e, e1, m', e2, e3⟩ := key
      exact ⟨m', by rw [e1, e2], e3⟩
    · obtain ⟨s1, s2⟩ := s
      obtain ⟨e1, hM, hF⟩ := hI
      dsimp only at e1 hM hF
      subst e1
      have hM1 := hM
      obtain ⟨r, al, g, f, s⟩ := hM
      have nl : ¬ (16 : Int32) ≤ o32 j := fun z => by
        have := (o_le (a := 16) (by omega) (by omega)).mp z
        omega
      have j16 : j < 16 := by omega
      have go : ∀ m2, MI m2 → Fw s2 m2 → ∃ s', (some (.inl ((o32 j + 1), m2)) : Option ((Int32 × Mem) ⊕ ((Int32 × Mem) ⊕ Mem))) = some (.inl s') ∧ s'.1 = o32 (j + 1) ∧ MI s'.2 ∧ Fw m s'.2 := fun m2 h1 h2 => ⟨_, rfl, by show o32 j + 1 = _; rw [o_s], h1, Fw_trans hF h2⟩
      unfold lX9_passesAll_12
      dsimp only
      rw [if_neg nl, is_s hi s, Option.bind_some]
      by_cases ai : al i = true
      · rw [ai, if_neg (by decide), is_s j16 s, Option.bind_some]
        by_cases aj : al j = true
        · rw [aj, if_neg (by decide)]
          rcases wall_any s hi j16 ai with ⟨hw, e2⟩ | ⟨hw, e2⟩
          · rw [e2, Option.bind_some, if_neg (by decide)]
            obtain ⟨v, m2, e3, f3⟩ := passesBy_op hi j16 (TX_Fw ht hF)
            obtain ⟨M2, F2⟩ := MI_146 hM1 f3
            rw [e3, Option.bind_some]
            dsimp only
            have g2 : ∀ {a b : Nat} (x : Int32), a < 16 → b < 16 → ∃ s', bX9_passesAll_69 (o32 i) (o32 j) x (o32 a) (o32 b) m2 = some (.inl s') ∧ s'.1 = o32 (j + 1) ∧ MI s'.2 ∧ Fw m s'.2 := fun {a b} x ha hb => by
              obtain ⟨m3, e4, M3, F3⟩ := gives_op ha hb (fJ9_abs_0f7a4 x) M2
              unfold bX9_passesAll_69
              rw [e4, Option.bind_some]
              exact go m3 M3 (Fw_trans F2 F3)
            unfold bX9_passesAll_60
            split
            · exact g2 v hi j16
            · exact g2 v j16 hi
          · rw [e2, Option.bind_some, if_pos rfl]
            exact go s2 hM1 (Fw_refl _)
        · rw [Bool.eq_false_iff.mpr aj, if_pos (show i01 false = 0 from rfl)]
          exact go s2 hM1 (Fw_refl _)
      · rw [Bool.eq_false_iff.mpr ai, if_pos (show i01 false = 0 from rfl)]
        exact go s2 hM1 (Fw_refl _)
    · obtain ⟨s1, s2⟩ := s
      obtain ⟨e1, hM, hF⟩ := hI
      dsimp only at e1 hM hF
      subst e1
      refine ⟨.inl (o32 i + 1, s2), ?_, s2, by rw [o_s], hM, hF⟩
      unfold lX9_passesAll_12
      dsimp only
      rw [if_pos (show (16 : Int32) ≤ o32 (i + 1 + (15 - i)) by rw [show i + 1 + (15 - i) = 16 by omega]; decide)]
  refine lp_ix (body := lX9_passesAll_2) (fun i s => s.1 = o32 i ∧ MI s.2 ∧ Fw m s.2) (fun e => MI e ∧ Fw m e) 16 0 ((0 : Int32), m) fu ⟨rfl, h, Fw_refl m⟩ (fun i s _ h2 hI => ?_) (fun s hI => ?_) (lt_fu (by omega))
  · obtain ⟨s1, s2⟩ := s
    obtain ⟨e1, hM, hF⟩ := hI
    dsimp only at e1 hM hF
    subst e1
    have nl : ¬ (16 : Int32) ≤ o32 i := fun z => by
      have := (o_le (a := 16) (by omega) (by omega)).mp z
      omega
    obtain ⟨m', e, M1, F1⟩ := inner i (by omega) s2 hM hF
    refine ⟨(o32 (i + 1), m'), ?_, rfl, M1, F1⟩
    unfold lX9_passesAll_2
    dsimp only
    rw [if_neg nl, e]
  · obtain ⟨s1, s2⟩ := s
    obtain ⟨e1, hM, hF⟩ := hI
    dsimp only at e1 hM hF
    subst e1
    refine ⟨s2, ?_, hM, hF⟩
    unfold lX9_passesAll_2
    dsimp only
    rw [if_pos (show (16 : Int32) ≤ o32 (0 + 16) by decide)]
end
section
/-! the model's tick: liquid that runs, walls that burst, the whole tick -/
theorem glasses_op {m : Mem} {b : Nat} {l : List Nat} (hb : b < 16) (h : rgAt m b l) : ∃ w, fX9_glassesOf (o32 b) m = some w := by
  have hl := h.1
  have key := lp_inv (body := lX9_glassesOf_4 (o32 b) m) (fun s => ∃ i, i ≤ 45 ∧ s.2 = o32 i) (fun s => 100 - s.2.toNatClampNeg) (fun _ => True) (fun s hs => ?_) fu ((0 : Int32), (0 : Int32)) ⟨0, by omega, rfl⟩ (lt_fu (by omega))
  · obtain ⟨e, e1, _⟩ := key
    exact ⟨e, e1⟩
  · obtain ⟨s1, s2⟩ := s
    obtain ⟨i, hi, e⟩ := hs
    dsimp only at e
    subst e
    unfold lX9_glassesOf_4
    dsimp only
    rw [sd_o hb, h.2.1, Option.bind_some]
    by_cases hn : l.length ≤ i
    · right
      rw [if_pos ((o_le (by omega) (by omega)).mpr hn)]
      exact ⟨_, rfl, trivial⟩
    · left
      rw [if_neg (fun z => hn ((o_le (by omega) (by omega)).mp z)), rg_o hb (by omega), Option.bind_some]
      have dec : 100 - (o32 i + 1).toNatClampNeg < 100 - (o32 i).toNatClampNeg := by rw [o_s, o_tn (by omega), o_tn (by omega)]; omega
      split
      · exact ⟨_, rfl, ⟨i + 1, by omega, by show o32 i + 1 = _; rw [o_s]⟩, dec⟩
      · exact ⟨_, rfl, ⟨i + 1, by omega, by show o32 i + 1 = _; rw [o_s]⟩, dec⟩
theorem isLower_op {m : Mem} {n a : Nat} (hn : n ≤ 16) (ha : a < 16) : fX9_isLower (o32 n) (o32 a) m = some 0 ∨ (n < 16 ∧ fX9_isLower (o32 n) (o32 a) m = some 1) := by
  have o4 : ∀ {x : Nat}, x < 16 → fX9_of (o32 x) 4 m = some (m 138 (12 + 50 * x + 4)) := fun hx => of_o (f := 4) hx (by omega)
  have n16 : o32 n = 16 ↔ n = 16 := o_eq (b := 16) (by omega) (by omega)
  unfold fX9_isLower
  by_cases q : n = 16
  · left; rw [if_pos (n16.mpr q)]
  · rw [if_neg (fun w => q (n16.mp w)), o4 (by omega), Option.bind_some, o4 ha, Option.bind_some]
    split
    · exact .inl rfl
    · exact .inr ⟨by omega, rfl⟩
theorem drains_op {m : Mem} (x : Int32) (h : MI m) : MI (fX9_drains x m) ∧ Fw m (fX9_drains x m) := by
  unfold fX9_drains
  exact ⟨MI_far (.inr (.inl (by omega))) h, Fw_put (by omega)⟩
theorem runs209_op {m : Mem} {a : Nat} {l : List Nat} (x3 x4 : Int32) (ha : a < 16) (hr : rgAt m a l) (h : MI m) : ∃ m', bX9_runs_209 (o32 a) x3 x4 m = some (.inl (o32 (a + 1), m')) ∧ MI m' ∧ Fw m m' := by
  unfold bX9_runs_209
  rw [o_s]
  split
  · obtain ⟨w, e⟩ := glasses_op ha hr
    rw [e, Option.bind_some]
    split
    · exact ⟨_, rfl, h, Fw_refl m⟩
    · rw [if_pos (o_inb (by omega) (by omega)), if_pos (o_inb (by omega) (by omega))]
      have M1 : ∀ j v, MI (mput m 147 j v) ∧ Fw m (mput m 147 j v) := fun j v => ⟨MI_far (.inl (by omega)) h, Fw_put (by omega)⟩
      have d := drains_op x3 (M1 (o32 a).toNatClampNeg (m 147 (o32 a).toNatClampNeg - x3)).1
      exact ⟨_, rfl, d.1, Fw_trans (M1 _ _).2 d.2⟩
  · exact ⟨_, rfl, h, Fw_refl m⟩
theorem runs139_op {m : Mem} {a : Nat} {l : List Nat} (x3 x4 : Int32) (ha : a < 16) (hr : rgAt m a l) (h : MI m) : ∃ m', lp (lX9_runs_139 (o32 a) x3 x4) fu ((0 : Int32), m) = some (.inl (o32 (a + 1), m')) ∧ MI m' ∧ Fw m m' := by
  have hl := hr.1
  have key := lp_inv (body := lX9_runs_139 (o32 a) x3 x4) (fun s => ∃ i, i ≤ 45 ∧ s.1 = o32 i ∧ (∀ j, s.2 138 j = m 138 j) ∧ MI s.2 ∧ Fw m s.2) (fun s => 100 - s.1.toNatClampNeg) (fun e => ∃ m', e = .inl (o32 (a + 1), m') ∧ MI m' ∧ Fw m m') (fun s hs => ?_) fu ((0 : Int32), m) ⟨0, by omega, rfl, fun _ => rfl, h, Fw_refl m⟩ (lt_fu (by omega))
  · obtain ⟨e, e1, m', e2, e3⟩ := key
    exact ⟨m', by rw [e1, e2], e3⟩
  · obtain ⟨s1, s2⟩ := s
    obtain ⟨i, hi, e, h138, hM, hF⟩ := hs
    dsimp only at e h138 hM hF
    subst e
    have hr2 : rgAt s2 a l := rgAt_same hr (fun z _ _ => h138 z)
    have fin : ∃ e, (bX9_runs_209 (o32 a) x3 x4 s2).map Sum.inr = (some (.inr e) : Option ((Int32 × Mem) ⊕ ((Int32 × Mem) ⊕ Mem))) ∧ ∃ m', e = .inl (o32 (a + 1), m') ∧ MI m' ∧ Fw m m' := by
      obtain ⟨m', e, M1, F1⟩ := runs209_op x3 x4 ha hr2 hM
      rw [e]
      exact ⟨_, rfl, m', rfl, M1, Fw_trans hF F1⟩
    unfold lX9_runs_139
    dsimp only
    rw [sd_o ha, hr2.2.1, Option.bind_some]
    by_cases hn : l.length ≤ i
    · right
      rw [if_pos ((o_le (by omega) (by omega)).mpr hn)]
      exact fin
    · rw [if_neg (fun z => hn ((o_le (by omega) (by omega)).mp z))]
      by_cases h4 : x4 ≤ 0
      · right
        rw [if_pos h4]
        exact fin
      · left
        have n0 : ¬ x4 = 0 := fun w => h4 (by rw [w]; decide)
        have dec : 100 - (o32 i + 1).toNatClampNeg < 100 - (o32 i).toNatClampNeg := by rw [o_s, o_tn (by omega), o_tn (by omega)]; omega
        have hx := hr2.2.2.1 _ (List.getElem_mem (show i < l.length by omega))
        rw [if_neg h4, rg_o ha (by omega), hr2.2.2.2 i (by omega), Option.bind_some]
        generalize l[i] = x at hx
        rcases isLower_op (m := s2) hx ha with q | ⟨hx16, q⟩
        · rw [q, Option.bind_some, if_pos rfl]
          exact ⟨_, rfl, ⟨i + 1, by omega, by show o32 i + 1 = _; rw [o_s], h138, hM, hF⟩, dec⟩
        · have bx : inb (o32 x) 16 := o_inb (by omega) (by omega)
          have ba : inb (o32 a) 16 := o_inb (by omega) (by omega)
          rw [q, Option.bind_some, if_neg (by decide), if_pos bx, if_pos n0, if_pos bx, if_pos ba, if_pos n0, if_pos ba]
          exact ⟨_, rfl, ⟨i + 1, by omega, by show o32 i + 1 = _; rw [o_s], fun j => by dsimp only; rw [mput_get, if_neg (by omega), mput_get, if_neg (by omega)]; exact h138 j, MI_far (.inl (by omega)) (MI_far (.inl (by omega)) hM), Fw_trans hF (Fw_trans (Fw_put (by omega)) (Fw_put (by omega)))⟩, dec⟩
theorem runs92_op {m : Mem} {a : Nat} {l : List Nat} (x3 : Int32) (ha : a < 16) (hr : rgAt m a l) (h : MI m) : ∃ m', lp (lX9_runs_92 (o32 a) x3 m) fu ((0 : Int32), (0 : Int32)) = some (.inl (o32 (a + 1), m')) ∧ MI m' ∧ Fw m m' := by
  have hl := hr.1
  have key := lp_inv (body := lX9_runs_92 (o32 a) x3 m) (fun s => ∃ i, i ≤ 45 ∧ s.2 = o32 i) (fun s => 100 - s.2.toNatClampNeg) (fun e => ∃ m', e = .inl (o32 (a + 1), m') ∧ MI m' ∧ Fw m m') (fun s hs => ?_) fu ((0 : Int32), (0 : Int32)) ⟨0, by omega, rfl⟩ (lt_fu (by omega))
  · obtain ⟨e, e1, m', e2, e3⟩ := key
    exact ⟨m', by rw [e1, e2], e3⟩
  · obtain ⟨s1, s2⟩ := s
    obtain ⟨i, hi, e⟩ := hs
    dsimp only at e
    subst e
    unfold lX9_runs_92
    dsimp only
    rw [sd_o ha, hr.2.1, Option.bind_some]
    by_cases hn : l.length ≤ i
    · right
      rw [if_pos ((o_le (by omega) (by omega)).mpr hn)]
      obtain ⟨m', e, M1, F1⟩ := runs139_op x3 s1 ha hr h
      rw [e]
      exact ⟨_, rfl, m', rfl, M1, F1⟩
    · left
      have dec : 100 - (o32 i + 1).toNatClampNeg < 100 - (o32 i).toNatClampNeg := by rw [o_s, o_tn (by omega), o_tn (by omega)]; omega
      have hx := hr.2.2.1 _ (List.getElem_mem (show i < l.length by omega))
      rw [if_neg (fun z => hn ((o_le (by omega) (by omega)).mp z)), rg_o ha (by omega), hr.2.2.2 i (by omega), Option.bind_some]
      generalize l[i] = x at hx
      rcases isLower_op (m := m) hx ha with q | ⟨_, q⟩
      · rw [q, Option.bind_some, if_pos rfl]
        exact ⟨_, rfl, ⟨i + 1, by omega, by show o32 i + 1 = _; rw [o_s]⟩, dec⟩
      · rw [q, Option.bind_some, if_neg (by decide)]
        exact ⟨_, rfl, ⟨i + 1, by omega, by show o32 i + 1 = _; rw [o_s]⟩, dec⟩
theorem runs67_op {m : Mem} {a : Nat} {l : List Nat} (y : Int32) (ha : a < 16) (hr : rgAt m a l) (h : MI m) : ∃ m', bX9_runs_67 (o32 a) y m = some (.inl (o32 (a + 1), m')) ∧ MI m' ∧ Fw m m' := by
  have o3 : fX9_of (o32 a) 3 m = some (m 138 (12 + 50 * a + 3)) := of_o (f := 3) ha (by omega)
  unfold bX9_runs_67
  rw [o3, Option.bind_some]
  unfold bX9_runs_84
  split
  · rw [if_pos (by decide)]
    exact runs92_op _ ha hr h
  · rw [if_pos (by decide)]
    exact runs92_op _ ha hr h
theorem runs_op {m : Mem} (h : MI m) : ∃ m', fX9_runs m = some m' ∧ MI m' ∧ Fw m m' := by
  have nl : ∀ {i : Nat}, i < 16 → ¬ (16 : Int32) ≤ o32 i := fun hi z => by
    have := (o_le (a := 16) (by omega) (by omega)).mp z
    omega
  have L245 : ∀ m0, MI m0 → Fw m m0 → ∃ m', lp lX9_runs_245 fu ((0 : Int32), m0) = some m' ∧ MI m' ∧ Fw m m' := fun m0 h0 f0 => by
    refine lp_ix (body := lX9_runs_245) (fun i s => s.1 = o32 i ∧ MI s.2 ∧ Fw m s.2) (fun e => MI e ∧ Fw m e) 16 0 ((0 : Int32), m0) fu ⟨rfl, h0, f0⟩ (fun i s _ h2 hI => ?_) (fun s hI => ?_) (lt_fu (by omega))
    · obtain ⟨s1, s2⟩ := s
      obtain ⟨e1, hM, hF⟩ := hI
      dsimp only at e1 hM hF
      subst e1
      have i16 : i < 16 := by omega
      have hM1 := hM
      obtain ⟨r, al, g, f, s⟩ := hM
      have bi : inb (o32 i) 16 := o_inb i16 (by omega)
      have t3 : ∀ v m, fX9_tells (o32 i) 3 v m = some (mput m 138 (12 + 50 * i + 3) v) := fun v m => tl_o (f := 3) i16 (by omega)
      unfold lX9_runs_245
      dsimp only
      rw [if_neg (nl i16), is_s i16 s, Option.bind_some]
      by_cases ai : al i = true
      · rw [ai, if_neg (by decide), if_pos bi, if_pos bi, t3, Option.bind_some]
        have d := drains_op (fJ9_max_7cf53 0 ((s2 147 (o32 i).toNatClampNeg) - 99999)) hM1
        exact ⟨_, rfl, by show o32 i + 1 = _; rw [o_s], MI_fld (by omega) (by omega) d.1, Fw_trans hF (Fw_trans d.2 (Fw_put (by omega)))⟩
      · rw [Bool.eq_false_iff.mpr ai, if_pos (show i01 false = 0 from rfl)]
        exact ⟨_, rfl, by show o32 i + 1 = _; rw [o_s], hM1, hF⟩
    · obtain ⟨s1, s2⟩ := s
      obtain ⟨e1, hM, hF⟩ := hI
      dsimp only at e1 hM hF
      subst e1
      refine ⟨s2, ?_, hM, hF⟩
      unfold lX9_runs_245
      dsimp only
      rw [if_pos (show (16 : Int32) ≤ o32 (0 + 16) by decide)]
  have L28 : ∀ m0, MI m0 → Fw m m0 → ∃ m', lp lX9_runs_28 fu ((0 : Int32), m0) = some m' ∧ MI m' ∧ Fw m m' := fun m0 h0 f0 => by
    refine lp_ix (body := lX9_runs_28) (fun i s => s.1 = o32 i ∧ MI s.2 ∧ Fw m s.2) (fun e => MI e ∧ Fw m e) 16 0 ((0 : Int32), m0) fu ⟨rfl, h0, f0⟩ (fun i s _ h2 hI => ?_) (fun s hI => ?_) (lt_fu (by omega))
    · obtain ⟨s1, s2⟩ := s
      obtain ⟨e1, hM, hF⟩ := hI
      dsimp only at e1 hM hF
      subst e1
      have i16 : i < 16 := by omega
      have hM1 := hM
      obtain ⟨r, al, g, f, s⟩ := hM
      have o1 : fX9_of (o32 i) 1 s2 = some (s2 138 (12 + 50 * i + 1)) := of_o (f := 1) i16 (by omega)
      unfold lX9_runs_28
      dsimp only
      rw [if_neg (nl i16), is_s i16 s, Option.bind_some]
      by_cases ai : al i = true
      · have go : ∀ y, ∃ s', bX9_runs_67 (o32 i) y s2 = some (.inl s') ∧ s'.1 = o32 (i + 1) ∧ MI s'.2 ∧ Fw m s'.2 := fun y => by
          obtain ⟨m', e, M1, F1⟩ := runs67_op y i16 ((s i i16).2 ai) hM1
          exact ⟨_, e, rfl, M1, Fw_trans hF F1⟩
        rw [ai, if_neg (by decide), o1, Option.bind_some]
        split
        · exact go 1
        · rw [Option.bind_some]
          split
          · exact go 1
          · exact go 0
      · rw [Bool.eq_false_iff.mpr ai, if_pos (show i01 false = 0 from rfl)]
        exact ⟨_, rfl, by show o32 i + 1 = _; rw [o_s], hM1, hF⟩
    · obtain ⟨s1, s2⟩ := s
      obtain ⟨e1, hM, hF⟩ := hI
      dsimp only at e1 hM hF
      subst e1
      obtain ⟨m', e, M1, F1⟩ := L245 s2 hM hF
      refine ⟨m', ?_, M1, F1⟩
      unfold lX9_runs_28
      dsimp only
      rw [if_pos (show (16 : Int32) ≤ o32 (0 + 16) by decide), e]
      rfl
  refine lp_ix (body := lX9_runs_2) (fun i s => s.1 = o32 i ∧ MI s.2 ∧ Fw m s.2) (fun e => MI e ∧ Fw m e) 16 0 ((0 : Int32), m) fu ⟨rfl, h, Fw_refl m⟩ (fun i s _ h2 hI => ?_) (fun s hI => ?_) (lt_fu (by omega))
  · obtain ⟨s1, s2⟩ := s
    obtain ⟨e1, hM, hF⟩ := hI
    dsimp only at e1 hM hF
    subst e1
    have i16 : i < 16 := by omega
    have o3 : fX9_of (o32 i) 3 s2 = some (s2 138 (12 + 50 * i + 3)) := of_o (f := 3) i16 (by omega)
    unfold lX9_runs_2
    dsimp only
    rw [if_neg (nl i16), o3, Option.bind_some, if_pos (o_inb i16 (by omega))]
    exact ⟨_, rfl, by show o32 i + 1 = _; rw [o_s], MI_far (.inl (by omega)) hM, Fw_trans hF (Fw_put (by omega))⟩
  · obtain ⟨s1, s2⟩ := s
    obtain ⟨e1, hM, hF⟩ := hI
    dsimp only at e1 hM hF
    subst e1
    obtain ⟨m', e, M1, F1⟩ := L28 s2 hM hF
    refine ⟨m', ?_, M1, F1⟩
    unfold lX9_runs_2
    dsimp only
    rw [if_pos (show (16 : Int32) ≤ o32 (0 + 16) by decide), e]
    rfl
end
section
/-! the model's tick in whole -/
noncomputable def OD (m : Mem) : Prop := ¬ (m 138 6 - m 138 6 / 10 * 10 = 0)
theorem drawn_op {m : Mem} {x : Int32} (hx : ¬ x = 0) : ∃ v w, fX9_drawn x m = some (v, mput m 138 3 w) := by
  unfold fX9_drawn
  rw [if_pos hx]
  exact ⟨_, _, rfl⟩
theorem burstsAll_op {m : Mem} (h : MI m) (ht : TX m) (ho : OD m) : ∃ m', fX9_burstsAll m = some m' ∧ MI m' ∧ Fw m m' := by
  have nl : ∀ {i : Nat}, i < 16 → ¬ (16 : Int32) ≤ o32 i := fun hi z => by
    have := (o_le (a := 16) (by omega) (by omega)).mp z
    omega
  have inner : ∀ i, i < 16 → ∀ m0, MI m0 → Fw m m0 → ∃ m', lp (lX9_burstsAll_20 (m 138 6) (o32 i)) fu (o32 i + 1, m0) = some (.inl (o32 (i + 1), m')) ∧ MI m' ∧ Fw m m' := fun i hi m0 hM0 hF0 => by
    have key := lp_ix (body := lX9_burstsAll_20 (m 138 6) (o32 i)) (fun k s => s.1 = o32 k ∧ MI s.2 ∧ Fw m s.2) (fun e => ∃ m', e = .inl (o32 (i + 1), m') ∧ MI m' ∧ Fw m m') (15 - i) (i + 1) (o32 i + 1, m0) fu ⟨by show o32 i + 1 = _; rw [o_s], hM0, hF0⟩ (fun j s hij hj hI => ?_) (fun s hI => ?_) (lt_fu (by omega))
    · obtain ⟨e, e1, m', e2, e3⟩ := key
      exact ⟨m', by rw [e1, e2], e3⟩
    · obtain ⟨s1, s2⟩ := s
      obtain ⟨e1, hM, hF⟩ := hI
      dsimp only at e1 hM hF
      subst e1
      have hM1 := hM
      obtain ⟨r, al, g, f, s⟩ := hM
      have j16 : j < 16 := by omega
      have go : ∀ m2, MI m2 → Fw s2 m2 → ∃ s', (some (.inl ((o32 j + 1), m2)) : Option ((Int32 × Mem) ⊕ ((Int32 × Mem) ⊕ Mem))) = some (.inl s') ∧ s'.1 = o32 (j + 1) ∧ MI s'.2 ∧ Fw m s'.2 := fun m2 h1 h2 => ⟨_, rfl, by show o32 j + 1 = _; rw [o_s], h1, Fw_trans hF h2⟩
      unfold lX9_burstsAll_20
      dsimp only
      rw [if_neg (nl j16), is_s hi s, Option.bind_some]
      by_cases ai : al i = true
      · rw [ai, if_neg (by decide), is_s j16 s, Option.bind_some]
        by_cases aj : al j = true
        · rw [aj, if_neg (by decide)]
          rcases wall_any s hi j16 ai with ⟨hw, e2⟩ | ⟨hw, e2⟩
          · rw [e2, Option.bind_some, if_neg (by decide)]
            obtain ⟨v, m2, e3, f3⟩ := isDry_op hi j16 (TX_Fw ht hF)
            obtain ⟨M2, F2⟩ := MI_146 hM1 f3
            rw [e3, Option.bind_some]
            dsimp only
            by_cases hv : v = 0
            · rw [if_pos hv]
              exact go m2 M2 F2
            · rw [if_neg hv]
              obtain ⟨d, w, e4⟩ := drawn_op (m := m2) ho
              rw [e4, Option.bind_some]
              dsimp only
              have s3 : RS (mput m2 138 3 w) r al := RS_same s (fun j _ _ => by rw [mput_get, if_neg (by omega)]; exact f3 138 j (by omega) (by omega))
              have F3 : Fw s2 (mput m2 138 3 w) := Fw_trans F2 (Fw_put (by omega))
              have M3 : MI (mput m2 138 3 w) := ⟨r, al, g, f, s3⟩
              split
              · exact go _ M3 F3
              · rw [canBurst_s hi j16 s3 g ai aj hw, Option.bind_some]
                by_cases hm : mayBur r i j = true
                · rw [hm, if_neg (by decide)]
                  obtain ⟨m4, e5, g5, f5, s5, z5⟩ := burs_op hi j16 (by omega) s3 g f ai aj hw hm
                  rw [e5, Option.bind_some]
                  exact go m4 ⟨_, _, g5, f5, s5⟩ (Fw_trans F3 (Fw_Fz z5))
                · rw [Bool.eq_false_iff.mpr hm, if_pos (show i01 false = 0 from rfl)]
                  exact go _ M3 F3
          · rw [e2, Option.bind_some, if_pos rfl]
            exact go s2 hM1 (Fw_refl _)
        · rw [Bool.eq_false_iff.mpr aj, if_pos (show i01 false = 0 from rfl)]
          exact go s2 hM1 (Fw_refl _)
      · rw [Bool.eq_false_iff.mpr ai, if_pos (show i01 false = 0 from rfl)]
        exact go s2 hM1 (Fw_refl _)
    · obtain ⟨s1, s2⟩ := s
      obtain ⟨e1, hM, hF⟩ := hI
      dsimp only at e1 hM hF
      subst e1
      refine ⟨.inl (o32 i + 1, s2), ?_, s2, by rw [o_s], hM, hF⟩
      unfold lX9_burstsAll_20
      dsimp only
      rw [if_pos (show (16 : Int32) ≤ o32 (i + 1 + (15 - i)) by rw [show i + 1 + (15 - i) = 16 by omega]; decide)]
  refine lp_ix (body := lX9_burstsAll_10 (m 138 6)) (fun i s => s.1 = o32 i ∧ MI s.2 ∧ Fw m s.2) (fun e => MI e ∧ Fw m e) 16 0 ((0 : Int32), m) fu ⟨rfl, h, Fw_refl m⟩ (fun i s _ h2 hI => ?_) (fun s hI => ?_) (lt_fu (by omega))
  · obtain ⟨s1, s2⟩ := s
    obtain ⟨e1, hM, hF⟩ := hI
    dsimp only at e1 hM hF
    subst e1
    obtain ⟨m', e, M1, F1⟩ := inner i (by omega) s2 hM hF
    refine ⟨(o32 (i + 1), m'), ?_, rfl, M1, F1⟩
    unfold lX9_burstsAll_10
    dsimp only
    rw [if_neg (nl (by omega)), e]
  · obtain ⟨s1, s2⟩ := s
    obtain ⟨e1, hM, hF⟩ := hI
    dsimp only at e1 hM hF
    subst e1
    refine ⟨s2, ?_, hM, hF⟩
    unfold lX9_burstsAll_10
    dsimp only
    rw [if_pos (show (16 : Int32) ≤ o32 (0 + 16) by decide)]
theorem OD_Fw {m m' : Mem} (h : OD m) (f : Fw m m') : OD m' := by
  unfold OD
  rw [f.2 6 (by omega)]
  exact h
theorem ticks_op {m : Mem} (h : MI m) (ht : TX m) (ho : OD m) : ∃ m', fX9_ticks m = some m' ∧ MI m' ∧ Fw m m' := by
  obtain ⟨m1, e1, M1, F1⟩ := passesAll_op h ht
  obtain ⟨m2, e2, M2, F2⟩ := runs_op M1
  have F02 := Fw_trans F1 F2
  obtain ⟨m3, e3, M3, F3⟩ := burstsAll_op M2 (TX_Fw ht F02) (OD_Fw ho F02)
  obtain ⟨m4, e4, M4, F4⟩ := tickEnd_op M3
  refine ⟨m4, ?_, M4, Fw_trans F02 (Fw_trans F3 F4)⟩
  unfold fX9_ticks
  rw [e1, Option.bind_some, e2, Option.bind_some, e3, Option.bind_some, e4]
theorem within60 {x : Int32} (h : fX9_within x 1 60 ≠ 0) : ∃ n, 1 ≤ n ∧ n ≤ 60 ∧ x = o32 n := by
  unfold fX9_within at h
  by_cases h1 : x < 1
  · rw [if_pos h1] at h; exact absurd rfl h
  · rw [if_neg h1] at h
    by_cases h2 : (60 : Int32) < x
    · rw [if_pos h2] at h; exact absurd rfl h
    · rw [Int32.lt_iff_toInt_lt] at h1 h2
      have e0 : (1 : Int32).toInt = 1 := rfl
      have e15 : (60 : Int32).toInt = 60 := rfl
      rw [e0] at h1
      rw [e15] at h2
      refine ⟨x.toInt.toNat, by omega, by omega, Int32.toInt_inj.mp ?_⟩
      rw [o_ti (by omega)]
      omega
theorem tick_op {m : Mem} (x : Int32) (h : MI m) (ht : TX m) (ho : OD m) : ∃ v m', fX9_tick x m = some (v, m') ∧ MI m' ∧ Fw m m' := by
  unfold fX9_tick
  by_cases hx : fX9_within x 1 60 = 0
  · rw [if_pos hx, fnd1]
    obtain ⟨a, b⟩ := MI_141 (k := 1) (v := m 141 1 + 1) h
    exact ⟨_, _, rfl, a, Fw_Fz b⟩
  · rw [if_neg hx]
    obtain ⟨n, n1, n60, e⟩ := within60 hx
    subst e
    split
    · have key := lp_ix (body := lX9_tick_40 (o32 n)) (fun i s => s.1 = o32 i ∧ MI s.2 ∧ Fw m s.2) (fun e => MI e.2 ∧ Fw m e.2) n 0 ((0 : Int32), m) fu ⟨rfl, h, Fw_refl m⟩ (fun i s _ h2 hI => ?_) (fun s hI => ?_) (lt_fu (by omega))
      · obtain ⟨⟨v, m'⟩, e1, e2⟩ := key
        exact ⟨v, m', e1, e2⟩
      · obtain ⟨s1, s2⟩ := s
        obtain ⟨e1, hM, hF⟩ := hI
        dsimp only at e1 hM hF
        subst e1
        obtain ⟨m', e, M1, F1⟩ := ticks_op hM (TX_Fw ht hF) (OD_Fw ho hF)
        refine ⟨(o32 i + 1, m'), ?_, by show o32 i + 1 = _; rw [o_s], M1, Fw_trans hF F1⟩
        unfold lX9_tick_40
        dsimp only
        rw [if_neg (fun z => by have := (o_le (by omega) (by omega)).mp z; omega), e]
        rfl
      · obtain ⟨s1, s2⟩ := s
        obtain ⟨e1, hM, hF⟩ := hI
        dsimp only at e1 hM hF
        subst e1
        obtain ⟨v, e⟩ := many_op s2
        refine ⟨(v, s2), ?_, hM, hF⟩
        unfold lX9_tick_40
        dsimp only
        rw [if_pos ((o_le (by omega) (by omega)).mpr (by omega)), e]
        rfl
    · rw [fnd3]
      obtain ⟨a, b⟩ := MI_141 (k := 3) (v := m 141 3 + 1) h
      exact ⟨_, _, rfl, a, Fw_Fz b⟩
end
section
/-! what the model answers of its walls -/
theorem MF_1 {m : Mem} (h : MI m) : ∃ v m', fX9_finding (-1000001) m = some (v, m') ∧ MI m' ∧ Fw m m' := by
  obtain ⟨a, b⟩ := MI_141 (k := 1) (v := m 141 1 + 1) h
  exact ⟨_, _, fnd1 m, a, Fw_Fz b⟩
theorem MF_3 {m : Mem} (h : MI m) : ∃ v m', fX9_finding (-1000003) m = some (v, m') ∧ MI m' ∧ Fw m m' := by
  obtain ⟨a, b⟩ := MI_141 (k := 3) (v := m 141 3 + 1) h
  exact ⟨_, _, fnd3 m, a, Fw_Fz b⟩
theorem bd_s {q : Option (Int32 × Mem)} {m : Mem} (h : ∃ v m', q = some (v, m') ∧ MI m' ∧ Fw m m') : ∃ v m', (q.bind fun q => some (q.1, q.2)) = some (v, m') ∧ MI m' ∧ Fw m m' := by
  obtain ⟨v, m', e, r⟩ := h
  exact ⟨v, m', by rw [e]; rfl, r⟩
theorem beside_op {m : Mem} (x y : Int32) (h : MI m) : ∃ v m', fX9_beside x y m = some (v, m') ∧ MI m' ∧ Fw m m' := by
  have h0 := h
  obtain ⟨r, al, g, f, s⟩ := h
  unfold fX9_beside
  rcases two_any s x y with e | ⟨a, b, ha, hb, hne, ex, ey, ala, alb, e⟩
  · rw [e, Option.bind_some, if_pos rfl]
    exact bd_s (MF_1 h0)
  · rw [e, Option.bind_some, if_neg (by decide)]
    subst ex ey
    rcases wall_any s ha hb ala with ⟨hw, e2⟩ | ⟨hw, e2⟩
    · rw [e2, Option.bind_some, if_neg (by decide)]
      exact ⟨_, _, rfl, h0, Fw_refl m⟩
    · rw [e2, Option.bind_some, if_pos rfl]
      exact ⟨_, _, rfl, h0, Fw_refl m⟩
theorem end_op {m : Mem} (x y z : Int32) (h : MI m) : ∃ v m', fX9_end x y z m = some (v, m') ∧ MI m' ∧ Fw m m' := by
  have h0 := h
  obtain ⟨r, al, g, f, s⟩ := h
  have no : ∃ v m', bX9_end_18 m = some (v, m') ∧ MI m' ∧ Fw m m' := by
    unfold bX9_end_18
    exact bd_s (MF_1 h0)
  unfold fX9_end
  rcases two_any s x y with e | ⟨a, b, ha, hb, hne, ex, ey, ala, alb, e⟩
  · rw [e, Option.bind_some, if_pos rfl]
    exact no
  · rw [e, Option.bind_some, if_neg (by decide)]
    subst ex ey
    split
    · exact no
    · rcases wall_any s ha hb ala with ⟨hw, e2⟩ | ⟨hw, e2⟩
      · rw [e2, Option.bind_some, if_neg (by decide)]
        split
        · rw [ahead_s ha (by omega) ((s a ha).2 ala) hw, Option.bind_some]
          exact ⟨_, _, rfl, h0, Fw_refl m⟩
        · rw [behind_s ha (by omega) ((s a ha).2 ala) hw, Option.bind_some]
          exact ⟨_, _, rfl, h0, Fw_refl m⟩
      · rw [e2, Option.bind_some, if_pos rfl]
        exact bd_s (MF_3 h0)
theorem passes_op {m : Mem} (x y : Int32) (h : MI m) (ht : TX m) : ∃ v m', fX9_passes x y m = some (v, m') ∧ MI m' ∧ Fw m m' := by
  have h0 := h
  obtain ⟨r, al, g, f, s⟩ := h
  unfold fX9_passes
  rcases two_any s x y with e | ⟨a, b, ha, hb, hne, ex, ey, ala, alb, e⟩
  · rw [e, Option.bind_some, if_pos rfl]
    exact bd_s (MF_1 h0)
  · rw [e, Option.bind_some, if_neg (by decide)]
    subst ex ey
    rcases wall_any s ha hb ala with ⟨hw, e2⟩ | ⟨hw, e2⟩
    · rw [e2, Option.bind_some, if_neg (by decide)]
      split
      · obtain ⟨v, m', e3, f3⟩ := passesBy_op hb ha ht
        rw [e3, Option.bind_some]
        exact ⟨_, _, rfl, MI_146 h0 f3⟩
      · obtain ⟨v, m', e3, f3⟩ := passesBy_op ha hb ht
        rw [e3, Option.bind_some]
        exact ⟨_, _, rfl, MI_146 h0 f3⟩
    · rw [e2, Option.bind_some, if_pos rfl]
      exact bd_s (MF_3 h0)
theorem pace_op {m : Mem} (x : Int32) (h : MI m) : ∃ v m', fX9_pace x m = some (v, m') ∧ MI m' ∧ Fw m m' := by
  have h0 := h
  obtain ⟨r, al, g, f, s⟩ := h
  unfold fX9_pace
  rcases is_any s x with e | ⟨a, ha, ea, ala, e⟩
  · rw [e, Option.bind_some, if_pos rfl]
    exact bd_s (MF_1 h0)
  · subst ea
    rw [e, Option.bind_some, if_neg (by decide), sd_o ha, Option.bind_some]
    exact ⟨_, _, rfl, h0, Fw_refl m⟩
theorem seed_op {m : Mem} (x : Int32) (h : MI m) : ∃ v m', fX9_seed x m = some (v, m') ∧ MI m' ∧ Fw m m' := by
  have b3 : inb 3 1082 := o_inb (j := 3) (by omega) (by omega)
  unfold fX9_seed fX9_comes
  rw [if_pos b3, if_pos b3, Option.bind_some]
  exact ⟨_, _, rfl, MI_far (.inr (.inl (show (3 : Int32).toNatClampNeg < 12 by decide))) h, Fw_put (.inl ⟨rfl, by decide, .inr (.inl rfl)⟩)⟩
theorem can_op {m : Mem} (x y z : Int32) (h : MI m) : ∃ v m', fX9_can x y z m = some (v, m') ∧ MI m' ∧ Fw m m' := by
  have h0 := h
  obtain ⟨r, al, g, f, s⟩ := h
  have no : ∃ v m', bX9_can_31 m = some (v, m') ∧ MI m' ∧ Fw m m' := by
    unfold bX9_can_31
    exact bd_s (MF_1 h0)
  have no3 : ∃ v m', bX9_can_64 m = some (v, m') ∧ MI m' ∧ Fw m m' := by
    unfold bX9_can_64
    exact bd_s (MF_3 h0)
  have yes : ∀ q, ∃ v m', bX9_can_103 q m = some (v, m') ∧ MI m' ∧ Fw m m' := fun q => by
    unfold bX9_can_103
    split
    · exact ⟨_, _, rfl, h0, Fw_refl m⟩
    · exact ⟨_, _, rfl, h0, Fw_refl m⟩
  unfold fX9_can
  split
  · exact no
  · rcases is_any s y with e | ⟨a, ha, ea, ala, e⟩
    · rw [e, Option.bind_some, if_pos rfl]
      exact no
    · rw [e, Option.bind_some, if_neg (by decide)]
      by_cases x2 : (2 : Int32) ≤ x
      · rw [if_pos x2]
        unfold bX9_can_38
        by_cases e2 : x = 2
        · subst ea
          rw [if_pos e2, sd_o ha, Option.bind_some]
          split
          · unfold bX9_can_71
            rw [if_neg (by rw [e2]; decide), if_neg (by rw [e2]; decide), canVanish_s ha s g ala, Option.bind_some]
            exact yes _
          · exact no3
        · rename_i hw
          exfalso
          unfold fX9_within at hw
          by_cases q0 : x < 0
          · rw [if_pos q0] at hw; exact hw rfl
          · rw [if_neg q0] at hw
            by_cases q2 : (2 : Int32) < x
            · rw [if_pos q2] at hw; exact hw rfl
            · exact e2 (Int32.le_antisymm (Int32.not_lt.mp q2) x2)
      · rw [if_neg x2]
        rcases two_any s y z with e3 | ⟨a', b, ha', hb, hne, ex, ey, ala', alb, e3⟩
        · rw [e3, Option.bind_some, if_pos rfl]
          exact no
        · rw [e3, Option.bind_some, if_neg (by decide)]
          subst ex ey
          unfold bX9_can_38
          rw [if_neg (fun w => x2 (by rw [w]; decide))]
          rcases wall_any s ha' hb ala' with ⟨hw, e4⟩ | ⟨hw, e4⟩
          · rw [e4, Option.bind_some, if_neg (by decide)]
            unfold bX9_can_71
            split
            · obtain ⟨v, e5, _⟩ := canTurn_s ha' hb s g ala' alb hw
              rw [e5, Option.bind_some]
              exact yes _
            · split
              · rw [canBurst_s ha' hb s g ala' alb hw, Option.bind_some]
                exact yes _
              · rw [canVanish_s ha' s g ala', Option.bind_some]
                exact yes _
          · rw [e4, Option.bind_some, if_pos rfl]
            exact no3
end
section
/-! what must hold of all the model's numbers, and the methods that set them -/
noncomputable def KI (m : Mem) : Prop := MI m ∧ TX m ∧ OD m ∧ (∃ n, n ≤ 60 ∧ m 138 1 = o32 n) ∧ ∃ n, n ≤ 24 ∧ m 138 2 = o32 n
theorem KI_Fw {m m' : Mem} (h : KI m) (hM : MI m') (f : Fw m m') : KI m' := by
  obtain ⟨_, h2, h3, ⟨n, n1, n2⟩, k, k1, k2⟩ := h
  exact ⟨hM, TX_Fw h2 f, OD_Fw h3 f, ⟨n, n1, by rw [f.2 1 (by omega)]; exact n2⟩, k, k1, by rw [f.2 2 (by omega)]; exact k2⟩
theorem KI_put {m : Mem} {j : Nat} {v : Int32} (h : KI m) (hj : j = 4 ∨ j = 5 ∨ (812 ≤ j ∧ j < 896)) : KI (mput m 138 j v) := by
  obtain ⟨h1, h2, h3, ⟨n, n1, n2⟩, k, k1, k2⟩ := h
  refine ⟨MI_far (by omega) h1, fun i hi => ?_, ?_, ⟨n, n1, by rw [mput_get, if_neg (by omega)]; exact n2⟩, k, k1, by rw [mput_get, if_neg (by omega)]; exact k2⟩
  · obtain ⟨n, p1, p2, dep, p3, p4⟩ := h2 i hi
    exact ⟨n, p1, by rw [mput_get, if_neg (by omega)]; exact p2, dep, p3, fun k hk => by rw [mput_get, if_neg (by omega)]; exact p4 k hk⟩
  · unfold OD
    rw [mput_get, if_neg (by omega)]
    exact h3
theorem within_lh {x : Int32} {l h : Nat} (hl : l < 100000) (hh : h < 100000) (q : fX9_within x (o32 l) (o32 h) ≠ 0) : ∃ n, l ≤ n ∧ n ≤ h ∧ x = o32 n := by
  unfold fX9_within at q
  by_cases h1 : x < o32 l
  · rw [if_pos h1] at q; exact absurd rfl q
  · rw [if_neg h1] at q
    by_cases h2 : o32 h < x
    · rw [if_pos h2] at q; exact absurd rfl q
    · rw [Int32.lt_iff_toInt_lt, o_ti (by omega)] at h1 h2
      refine ⟨x.toInt.toNat, by omega, by omega, Int32.toInt_inj.mp ?_⟩
      rw [o_ti (by omega)]
      omega
theorem KF_1 {m : Mem} (h : KI m) : ∃ v m', (fX9_finding (-1000001) m).bind (fun q => some (q.1, q.2)) = some (v, m') ∧ KI m' := by
  obtain ⟨v, m', e, M, F⟩ := bd_s (MF_1 h.1)
  exact ⟨v, m', e, KI_Fw h M F⟩
theorem fnd4 (m : Mem) : fX9_finding (-1000004) m = some (-1000004, mput m 141 4 (m 141 4 + 1)) := by
  unfold fX9_finding
  rw [if_pos (by decide), if_pos (by decide)]
  rfl
theorem KF_4 {m : Mem} (h : KI m) : ∃ v m', (fX9_finding (-1000004) m).bind (fun q => some (q.1, q.2)) = some (v, m') ∧ KI m' := by
  obtain ⟨a, b⟩ := MI_141 (k := 4) (v := m 141 4 + 1) h.1
  exact ⟨_, _, by rw [fnd4]; rfl, KI_Fw h a (Fw_Fz b)⟩
theorem comes_op {m : Mem} {j : Nat} {x : Int32} (hj : j < 1082) : fX9_comes (o32 j) x m = some (m 138 j, mput m 138 j x) := by
  have b : inb (o32 j) 1082 := o_inb hj (by omega)
  unfold fX9_comes
  rw [if_pos b, if_pos b, o_tn (by omega)]
theorem untell_op {m : Mem} (x : Int32) (h : KI m) : ∃ v m', fX9_untell x m = some (v, m') ∧ KI m' := by
  unfold fX9_untell
  by_cases q : fX9_within x 0 2 = 0
  · rw [if_pos q]
    exact KF_1 h
  · rw [if_neg q]
    obtain ⟨n, _, n2, e⟩ := within_lh (l := 0) (h := 2) (by omega) (by omega) q
    subst e
    have e1 : (896 : Int32) + 62 * o32 n = o32 (896 + 62 * n) := by
      show o32 896 + o32 62 * o32 n = _
      rw [o_mul, o_add]
    rw [e1, comes_op (by omega), Option.bind_some]
    have K : KI (mput m 138 (896 + 62 * n) 0) := by
      obtain ⟨h1, h2, h3, ⟨t, t1, t2⟩, k, k1, k2⟩ := h
      refine ⟨MI_far (by omega) h1, fun i hi => ?_, ?_, ⟨t, t1, by rw [mput_get, if_neg (by omega)]; exact t2⟩, k, k1, by rw [mput_get, if_neg (by omega)]; exact k2⟩
      · by_cases ei : i = n
        · subst ei
          exact ⟨0, by omega, by rw [mput_get, if_pos ⟨rfl, rfl⟩]; rfl, fun _ => 0, rfl, fun k hk => absurd hk (by omega)⟩
        · obtain ⟨n', p1, p2, dep, p3, p4⟩ := h2 i hi
          exact ⟨n', p1, by rw [mput_get, if_neg (by omega)]; exact p2, dep, p3, fun k hk => by rw [mput_get, if_neg (by omega)]; exact p4 k hk⟩
      · unfold OD
        rw [mput_get, if_neg (by omega)]
        exact h3
    split
    · exact ⟨_, _, rfl, K⟩
    · exact ⟨_, _, rfl, K⟩
theorem tell_op {m : Mem} (x : Int32) (h : KI m) : ∃ v m', fX9_tell x m = some (v, m') ∧ KI m' := by
  have h0 := h
  obtain ⟨_, _, _, _, k, k1, k2⟩ := h
  unfold fX9_tell
  split
  · exact KF_4 h0
  · rename_i hn
    have kn : k ≠ 24 := fun w => hn (by rw [k2, w]; rfl)
    have e1 : (872 : Int32) + o32 k = o32 (872 + k) := o_add 872 k
    rw [k2, e1, if_pos (o_inb (by omega) (by omega)), o_tn (by omega)]
    refine ⟨_, _, rfl, ?_⟩
    have K := KI_put (v := x) h0 (j := 872 + k) (by omega)
    obtain ⟨q1, q2, q3, ⟨t, t1, t2⟩, _⟩ := K
    refine ⟨MI_far (by omega) q1, TX_same q2 (fun j hj => by rw [mput_get, if_neg (by omega)]), ?_, ⟨t, t1, by rw [mput_get, if_neg (by omega)]; exact t2⟩, k + 1, by omega, ?_⟩
    · unfold OD
      rw [mput_get, if_neg (by omega)]
      exact q3
    · rw [mput_get, if_pos ⟨rfl, rfl⟩, mput_get, if_neg (by omega), k2, o_s]
theorem rule_op {m : Mem} (x y : Int32) (h : KI m) : ∃ v m', fX9_rule x y m = some (v, m') ∧ KI m' := by
  have no : ∀ x, ∃ v m', bX9_rule_57 x y 0 m = some (v, m') ∧ KI m' := fun x => by
    unfold bX9_rule_57
    rw [if_pos rfl]
    exact KF_1 h
  have set : ∀ (x q : Int32) (j : Nat), 4 + x = o32 j → j < 1082 → KI (mput m 138 j y) → ∃ v m', bX9_rule_57 x y q m = some (v, m') ∧ KI m' := fun x q j e hj K => by
    unfold bX9_rule_57
    split
    · exact KF_1 h
    · rw [e, comes_op hj, Option.bind_some]
      exact ⟨_, _, rfl, K⟩
  unfold fX9_rule
  split
  · rename_i e
    subst e
    exact set 0 _ 4 (by decide) (by omega) (KI_put h (by omega))
  split
  · rename_i e
    subst e
    exact set 1 _ 5 (by decide) (by omega) (KI_put h (by omega))
  split
  · rename_i e
    subst e
    split
    · exact no 2
    · split
      · exact no 2
      · rename_i hy
        refine set 2 1 6 (by decide) (by omega) ?_
        obtain ⟨h1, h2, h3, ⟨t, t1, t2⟩, k, k1, k2⟩ := h
        refine ⟨MI_far (by omega) h1, TX_same h2 (fun j hj => by rw [mput_get, if_neg (by omega)]), ?_, ⟨t, t1, by rw [mput_get, if_neg (by omega)]; exact t2⟩, k, k1, by rw [mput_get, if_neg (by omega)]; exact k2⟩
        unfold OD
        rw [mput_get, if_pos ⟨rfl, rfl⟩]
        exact fun w => hy (by rw [w]; decide)
  · exact no x
end
section
/-! all of THE FOAM's methods keep what must hold -/
theorem lift_s {q : Option (Int32 × Mem)} {m : Mem} (h : KI m) (e : ∃ v m', q = some (v, m') ∧ MI m' ∧ Fw m m') : ∃ v m', q = some (v, m') ∧ KI m' := by
  obtain ⟨v, m', e, M, F⟩ := e
  exact ⟨v, m', e, KI_Fw h M F⟩
theorem lift_z {q : Option (Int32 × Mem)} {m : Mem} (h : KI m) (e : ∃ v m', q = some (v, m') ∧ MI m' ∧ Fz m m') : ∃ v m', q = some (v, m') ∧ KI m' := by
  obtain ⟨v, m', e, M, F⟩ := e
  exact ⟨v, m', e, KI_Fw h M (Fw_Fz F)⟩
theorem k_turn {m : Mem} (x y : Int32) (h : KI m) : ∃ v m', fX9_turn x y m = some (v, m') ∧ KI m' := lift_z h (turn_op x y h.1)
theorem k_burst {m : Mem} (x y : Int32) (h : KI m) : ∃ v m', fX9_burst x y m = some (v, m') ∧ KI m' := lift_z h (burst_op x y h.1)
theorem k_vanish {m : Mem} (x : Int32) (h : KI m) : ∃ v m', fX9_vanish x m = some (v, m') ∧ KI m' := lift_z h (vanish_op x h.1)
theorem k_tick {m : Mem} (x : Int32) (h : KI m) : ∃ v m', fX9_tick x m = some (v, m') ∧ KI m' := lift_s h (tick_op x h.1 h.2.1 h.2.2.1)
theorem k_beside {m : Mem} (x y : Int32) (h : KI m) : ∃ v m', fX9_beside x y m = some (v, m') ∧ KI m' := lift_s h (beside_op x y h.1)
theorem k_end {m : Mem} (x y z : Int32) (h : KI m) : ∃ v m', fX9_end x y z m = some (v, m') ∧ KI m' := lift_s h (end_op x y z h.1)
theorem k_can {m : Mem} (x y z : Int32) (h : KI m) : ∃ v m', fX9_can x y z m = some (v, m') ∧ KI m' := lift_s h (can_op x y z h.1)
theorem k_passes {m : Mem} (x y : Int32) (h : KI m) : ∃ v m', fX9_passes x y m = some (v, m') ∧ KI m' := lift_s h (passes_op x y h.1 h.2.1)
theorem k_pace {m : Mem} (x : Int32) (h : KI m) : ∃ v m', fX9_pace x m = some (v, m') ∧ KI m' := lift_s h (pace_op x h.1)
theorem k_seed {m : Mem} (x : Int32) (h : KI m) : ∃ v m', fX9_seed x m = some (v, m') ∧ KI m' := lift_s h (seed_op x h.1)
theorem foam_op {m : Mem} (x y g : Int32) (h : KI m) : ∃ v m', fX9_foam x y g m = some (v, m') ∧ KI m' := by
  have no : ∃ v m', bX9_foam_28 m = some (v, m') ∧ KI m' := by
    unfold bX9_foam_28
    exact KF_1 h
  by_cases q1 : fX9_within x 1 4 = 0
  · unfold fX9_foam
    rw [if_pos q1]
    exact no
  by_cases q2 : fX9_within y 1 4 = 0
  · unfold fX9_foam
    rw [if_neg q1, if_pos q2]
    exact no
  by_cases q3 : fX9_within g 0 99999 = 0
  · unfold fX9_foam
    rw [if_neg q1, if_neg q2, if_pos q3]
    exact no
  obtain ⟨w, w1, w4, ew⟩ := within_lh (l := 1) (h := 4) (by omega) (by omega) q1
  obtain ⟨k, k1, k4, ek⟩ := within_lh (l := 1) (h := 4) (by omega) (by omega) q2
  subst ew ek
  obtain ⟨m', e, S, _, _, _, fr⟩ := foam_s (m := m) w1 w4 k1 k4 q3
  obtain ⟨G, F, _⟩ := foam_Gr w1 w4 k1 k4
  exact ⟨_, m', e, KI_Fw h ⟨_, _, G, F, S⟩ ⟨fun c j a1 _ _ _ _ _ => fr c j (fun z => a1 z.1), fun j hj => fr 138 j (by omega)⟩⟩
theorem feed_op {m : Mem} (x : Int64) (y : Int32) (h : KI m) : ∃ v m', fX9_feed x y m = some (v, m') ∧ KI m' := by
  unfold fX9_feed
  by_cases q : fX9_within y 1 8 = 0
  · rw [if_pos q]
    exact KF_1 h
  · rw [if_neg q]
    obtain ⟨n, n1, n8, e⟩ := within_lh (l := 1) (h := 8) (by omega) (by omega) q
    subst e
    have h0 := h
    obtain ⟨_, _, _, ⟨t, t1, t2⟩, _⟩ := h
    rw [t2, o_add]
    by_cases hq : t + n ≤ 60
    · rw [if_pos (show o32 (t + n) ≤ 60 from (o_le (b := 60) (by omega) (by omega)).mpr hq)]
      have key := lp_ix (body := lX9_feed_40 x (o32 n)) (fun i s => s.1 = o32 i ∧ KI s.2 ∧ s.2 138 1 = o32 (t + i)) (fun e => KI e.2) n 0 ((0 : Int32), m) fu ⟨rfl, h0, t2⟩ (fun i s _ hi hI => ?_) (fun s hI => ?_) (lt_fu (by omega))
      · obtain ⟨⟨v, m'⟩, e1, e2⟩ := key
        exact ⟨v, m', e1, e2⟩
      · obtain ⟨s1, s2⟩ := s
        obtain ⟨e1, hK, et⟩ := hI
        dsimp only at e1 hK et
        subst e1
        have ea : (812 : Int32) + o32 (t + i) = o32 (812 + (t + i)) := o_add 812 (t + i)
        unfold lX9_feed_40
        dsimp only
        have hb : inb (812 + s2 138 1) 1082 := by
          rw [et, ea]
          exact o_inb (by omega) (by omega)
        have tn : (812 + s2 138 1).toNatClampNeg = 812 + (t + i) := by
          rw [et, ea]
          exact o_tn (by omega)
        rw [if_neg (fun z => by have := (o_le (by omega) (by omega)).mp z; omega), if_pos hb, tn]
        have key : ∀ v, KI (mput (mput s2 138 (812 + (t + i)) v) 138 1 (mput s2 138 (812 + (t + i)) v 138 1 + 1)) ∧ mput (mput s2 138 (812 + (t + i)) v) 138 1 (mput s2 138 (812 + (t + i)) v 138 1 + 1) 138 1 = o32 (t + (i + 1)) := fun v => by
          have K := KI_put (v := v) hK (j := 812 + (t + i)) (by omega)
          obtain ⟨p1, p2, p3, _, k, k1, k2⟩ := K
          have e9 : mput (mput s2 138 (812 + (t + i)) v) 138 1 (mput s2 138 (812 + (t + i)) v 138 1 + 1) 138 1 = o32 (t + (i + 1)) := by
            rw [mput_get, if_pos ⟨rfl, rfl⟩, mput_get, if_neg (by omega), et, o_s]
            rfl
          refine ⟨⟨MI_far (by omega) p1, TX_same p2 (fun j hj => by rw [mput_get, if_neg (by omega)]), ?_, ⟨t + (i + 1), by omega, e9⟩, k, k1, by rw [mput_get, if_neg (by omega)]; exact k2⟩, e9⟩
          unfold OD
          rw [mput_get, if_neg (by omega)]
          exact p3
        exact ⟨_, rfl, by show o32 i + 1 = _; rw [o_s], (key _).1, (key _).2⟩
      · obtain ⟨s1, s2⟩ := s
        obtain ⟨e1, hK, et⟩ := hI
        dsimp only at e1 hK et
        subst e1
        refine ⟨(s2 138 1, s2), ?_, hK⟩
        unfold lX9_feed_40
        dsimp only
        rw [if_pos ((o_le (by omega) (by omega)).mpr (by omega))]
    · rw [if_neg (show ¬ o32 (t + n) ≤ 60 from fun w => hq ((o_le (b := 60) (by omega) (by omega)).mp w))]
      exact KF_4 h0
end
section
/-! what the model answers of a BUBBLE -/
theorem markOf_op {m : Mem} {a : Nat} (ha : a < 16) (h : TX m) : ∃ v m', fX9_markOf (o32 a) m = some (v, m') ∧ F146 m m' := by
  have o : ∀ f, f < 50 → fX9_of (o32 a) (o32 f) m = some (m 138 (12 + 50 * a + f)) := fun f hf => of_o ha hf
  have o1 : fX9_of (o32 a) 1 m = some (m 138 (12 + 50 * a + 1)) := o 1 (by omega)
  have o2 : fX9_of (o32 a) 2 m = some (m 138 (12 + 50 * a + 2)) := o 2 (by omega)
  have o3 : fX9_of (o32 a) 3 m = some (m 138 (12 + 50 * a + 3)) := o 3 (by omega)
  have o4 : fX9_of (o32 a) 4 m = some (m 138 (12 + 50 * a + 4)) := o 4 (by omega)
  unfold fX9_markOf
  rw [sd_o ha, Option.bind_some, o2, Option.bind_some, o3, Option.bind_some, o4, Option.bind_some, o1, Option.bind_some]
  obtain ⟨v, m', e, f⟩ := given_op (i := 2) (by omega) h (m 138 (12 + 50 * a + 5)) (m 138 (12 + 50 * a + 2)) (m 138 (12 + 50 * a + 3)) (m 138 (12 + 50 * a + 4)) (m 138 (12 + 50 * a + 1))
  have e' : fX9_given 2 (m 138 (12 + 50 * a + 5)) (m 138 (12 + 50 * a + 2)) (m 138 (12 + 50 * a + 3)) (m 138 (12 + 50 * a + 4)) (m 138 (12 + 50 * a + 1)) m = some (v, m') := e
  rw [e', Option.bind_some]
  exact ⟨v, m', rfl, f⟩
theorem bubbleIs_op {m : Mem} (x y : Int32) (h : KI m) : ∃ v m', fX9_bubbleIs x y m = some (v, m') ∧ KI m' := by
  have no : ∃ v m', bX9_bubbleIs_18 m = some (v, m') ∧ KI m' := by
    unfold bX9_bubbleIs_18
    exact KF_1 h
  have h0 := h
  obtain ⟨⟨r, al, g, f, s⟩, ht, _⟩ := h
  unfold fX9_bubbleIs
  rcases is_any s x with e | ⟨a, ha, ea, ala, e⟩
  · rw [e, Option.bind_some, if_pos rfl]
    exact no
  · subst ea
    rw [e, Option.bind_some, if_neg (by decide)]
    by_cases q : fX9_within y 0 8 = 0
    · rw [if_pos q]
      exact no
    · rw [if_neg q]
      obtain ⟨n, _, n8, ey⟩ := within_lh (l := 0) (h := 8) (by omega) (by omega) q
      subst ey
      split
      · obtain ⟨w, e2⟩ := glasses_op ha ((s a ha).2 ala)
        rw [e2, Option.bind_some]
        exact ⟨_, _, rfl, h0⟩
      split
      · obtain ⟨w, e2⟩ := dryOf_op (m := m) ha
        rw [e2, Option.bind_some]
        exact ⟨_, _, rfl, h0⟩
      split
      · obtain ⟨w, e2⟩ := letsOf_op (m := m) ha
        rw [e2, Option.bind_some]
        exact ⟨_, _, rfl, h0⟩
      split
      · obtain ⟨v, m', e2, f2⟩ := markOf_op ha ht
        obtain ⟨M, F⟩ := MI_146 h0.1 f2
        rw [e2, Option.bind_some]
        exact ⟨_, _, rfl, KI_Fw h0 M F⟩
      · have e1 : (1 : Int32) + o32 n = o32 (1 + n) := o_add 1 n
        rw [e1, of_o ha (by omega), Option.bind_some]
        exact ⟨_, _, rfl, h0⟩
theorem sides_op {m : Mem} (x : Int32) (h : KI m) : ∃ v m', fX9_sides x m = some (v, m') ∧ KI m' := by
  have h0 := h
  obtain ⟨⟨r, al, g, f, s⟩, _⟩ := h
  unfold fX9_sides
  split
  · exact KF_1 h0
  · have key := lp_ix (body := lX9_sides_21 x m) (fun i s => s.2 = o32 i) (fun e => e.2 = m) 16 0 ((0 : Int32), (0 : Int32)) fu rfl (fun i t _ hi hI => ?_) (fun t hI => ?_) (lt_fu (by omega))
    · obtain ⟨⟨v, m'⟩, e1, e2⟩ := key
      dsimp only at e2
      exact ⟨v, m', e1, by rw [e2]; exact h0⟩
    · obtain ⟨t1, t2⟩ := t
      dsimp only at hI
      subst hI
      have i16 : i < 16 := by omega
      have nl : ¬ (16 : Int32) ≤ o32 i := fun z => by
        have := (o_le (a := 16) (by omega) (by omega)).mp z
        omega
      unfold lX9_sides_21
      dsimp only
      rw [if_neg nl, is_s i16 s, Option.bind_some]
      by_cases ai : al i = true
      · rw [ai, if_neg (by decide), sd_o i16, Option.bind_some]
        split
        · exact ⟨_, rfl, by show o32 i + 1 = _; rw [o_s]⟩
        · exact ⟨_, rfl, by show o32 i + 1 = _; rw [o_s]⟩
      · rw [Bool.eq_false_iff.mpr ai, if_pos (show i01 false = 0 from rfl)]
        exact ⟨_, rfl, by show o32 i + 1 = _; rw [o_s]⟩
    · obtain ⟨t1, t2⟩ := t
      dsimp only at hI
      subst hI
      refine ⟨(t1, m), ?_, rfl⟩
      unfold lX9_sides_21
      dsimp only
      rw [if_pos (show (16 : Int32) ≤ o32 (0 + 16) by decide)]
end
section
/-! the model's sheets -/
noncomputable def SH (m : Mem) : Prop := ∀ k, k < 4 → ∃ n, n ≤ 24 ∧ m 152 k = o32 n
theorem KI_off {m : Mem} {c j : Nat} {v : Int32} (h : KI m) (hc : c ≠ 138) : KI (mput m c j v) := by
  obtain ⟨h1, h2, h3, ⟨n, n1, n2⟩, k, k1, k2⟩ := h
  have e : ∀ z, mput m c j v 138 z = m 138 z := fun z => by rw [mput_get, if_neg (fun w => hc w.1.symm)]
  exact ⟨MI_far (.inl hc) h1, TX_same h2 (fun z _ => e z), by unfold OD; rw [e]; exact h3, ⟨n, n1, by rw [e]; exact n2⟩, k, k1, by rw [e]; exact k2⟩
theorem SH_off {m : Mem} {c j : Nat} {v : Int32} (h : SH m) (hc : c ≠ 152) : SH (mput m c j v) := fun k hk => by
  obtain ⟨n, n1, n2⟩ := h k hk
  exact ⟨n, n1, by rw [mput_get, if_neg (fun w => hc w.1.symm)]; exact n2⟩
theorem fndK {m : Mem} (h : KI m) (hs : SH m) : (∃ v m', (fX9_finding (-1000001) m).bind (fun q => some (q.1, q.2)) = some (v, m') ∧ KI m' ∧ SH m') ∧ ∃ v m', (fX9_finding (-1000002) m).bind (fun q => some (q.1, q.2)) = some (v, m') ∧ KI m' ∧ SH m' := by
  have e2 : fX9_finding (-1000002) m = some (-1000002, mput m 141 2 (m 141 2 + 1)) := by
    unfold fX9_finding
    rw [if_pos (by decide), if_pos (by decide)]
    rfl
  exact ⟨⟨_, _, by rw [fnd1]; rfl, KI_off h (by omega), SH_off hs (by omega)⟩, ⟨_, _, by rw [e2]; rfl, KI_off h (by omega), SH_off hs (by omega)⟩⟩
theorem isSheet_op (x : Int32) : fX9_isSheet x = some 0 ∨ ∃ k, k < 4 ∧ x = o32 k ∧ fX9_isSheet x = some 1 := by
  unfold fX9_isSheet
  have w : fX9_within x 0 3 = 0 ∨ fX9_within x 0 3 = 1 := by
    unfold fX9_within
    split
    · exact .inl rfl
    · split
      · exact .inl rfl
      · exact .inr rfl
  rw [if_pos w]
  rcases w with w | w
  · exact .inl (by rw [w])
  · right
    have n0 : fX9_within x (o32 0) (o32 3) ≠ 0 := fun z => by
      have z' : fX9_within x 0 3 = 0 := z
      rw [w] at z'
      exact absurd z' (by decide)
    obtain ⟨k, _, k3, e⟩ := within_lh (l := 0) (h := 3) (by omega) (by omega) n0
    exact ⟨k, by omega, e, by rw [w]⟩
theorem put_op {m : Mem} (x y z : Int32) (h : KI m) (hs : SH m) : ∃ v m', fX9_put x y z m = some (v, m') ∧ KI m' ∧ SH m' := by
  obtain ⟨no1, no2⟩ := fndK h hs
  unfold fX9_put
  rcases isSheet_op x with e | ⟨k, hk, ex, e⟩
  · rw [e, Option.bind_some, if_pos rfl]
    exact no1
  · subst ex
    have bk : inb (o32 k) 4 := o_inb hk (by omega)
    have tk : (o32 k).toNatClampNeg = k := o_tn (by omega)
    obtain ⟨n, n24, en⟩ := hs k hk
    rw [e, Option.bind_some, if_neg (by decide), if_pos bk]
    split
    · exact no2
    · by_cases q : fX9_within y 0 (m 152 (o32 k).toNatClampNeg - 1) = 0
      · rw [if_pos q]
        exact no1
      · rw [if_neg q]
        rw [tk, en] at q
        obtain ⟨j, hj, ej⟩ : ∃ j, j < 24 ∧ y = o32 j := by
          by_cases n0 : n = 0
          · exfalso
            subst n0
            unfold fX9_within at q
            by_cases q1 : y < 0
            · rw [if_pos q1] at q; exact q rfl
            · rw [if_neg q1] at q
              by_cases q2 : o32 0 - 1 < y
              · rw [if_pos q2] at q; exact q rfl
              · rw [Int32.lt_iff_toInt_lt] at q1 q2
                have e0 : (0 : Int32).toInt = 0 := rfl
                have e9 : (o32 0 - 1).toInt = -1 := by decide
                omega
          · rw [less1' (by omega) (by omega)] at q
            obtain ⟨j, _, j2, ej⟩ := within_lh (l := 0) (h := n - 1) (by omega) (by omega) q
            exact ⟨j, by omega, ej⟩
        subst ej
        have ei : (24 : Int32) * o32 k + o32 j = o32 (24 * k + j) := by
          show o32 24 * o32 k + o32 j = _
          rw [o_mul, o_add]
        have go : ∀ w, ∃ v m', bX9_put_96 (24 * o32 k + o32 j) w m = some (v, m') ∧ KI m' ∧ SH m' := fun w => by
          unfold bX9_put_96
          rw [ei, if_pos (o_inb (by omega) (by omega))]
          exact ⟨_, _, rfl, KI_off h (by omega), SH_off hs (by omega)⟩
        split
        · exact go _
        · split
          · exact go _
          · exact go _
end
section
theorem fndK3 {m : Mem} (h : KI m) (hs : SH m) : ∃ v m', (fX9_finding (-1000003) m).bind (fun q => some (q.1, q.2)) = some (v, m') ∧ KI m' ∧ SH m' := ⟨_, _, by rw [fnd3]; rfl, KI_off h (by omega), SH_off hs (by omega)⟩
theorem SH_put {m : Mem} {k n : Nat} (h : SH m) (hn : n ≤ 24) : SH (mput m 152 k (o32 n)) := fun j hj => by
  by_cases e : j = k
  · exact ⟨n, hn, by rw [mput_get, if_pos ⟨rfl, e⟩]⟩
  · obtain ⟨n', a, b⟩ := h j hj
    exact ⟨n', a, by rw [mput_get, if_neg (fun w => e w.2)]; exact b⟩
theorem sheet89_op {m : Mem} {k n : Nat} (hk : k < 4) (hn : n ≤ 24) (h : KI m) (hs : SH m) : ∃ v m', bX9_sheet_89 (o32 k) (o32 k) (o32 n) m = some (v, m') ∧ KI m' ∧ SH m' := by
  have bk : inb (o32 k) 4 := o_inb hk (by omega)
  have tk : (o32 k).toNatClampNeg = k := o_tn (by omega)
  unfold bX9_sheet_89
  rw [if_pos bk, tk]
  have key := lp_ix (body := lX9_sheet_93 (o32 k)) (fun i s => s.1 = o32 i ∧ KI s.2 ∧ SH s.2) (fun e => KI e.2 ∧ SH e.2) 24 0 ((0 : Int32), mput m 152 k (o32 n)) fu ⟨rfl, KI_off h (by omega), SH_put hs hn⟩ (fun i s _ hi hI => ?_) (fun s hI => ?_) (lt_fu (by omega))
  · obtain ⟨⟨v, m'⟩, e1, e2⟩ := key
    exact ⟨v, m', e1, e2⟩
  · obtain ⟨s1, s2⟩ := s
    obtain ⟨e1, hK, hS⟩ := hI
    dsimp only at e1 hK hS
    subst e1
    have ei : (24 : Int32) * o32 k + o32 i = o32 (24 * k + i) := by
      show o32 24 * o32 k + o32 i = _
      rw [o_mul, o_add]
    have nl : ¬ (24 : Int32) ≤ o32 i := fun z => by
      have := (o_le (a := 24) (by omega) (by omega)).mp z
      omega
    unfold lX9_sheet_93
    dsimp only
    rw [if_neg nl, ei, if_pos (o_inb (by omega) (by omega))]
    exact ⟨_, rfl, by show o32 i + 1 = _; rw [o_s], KI_off hK (by omega), SH_off hS (by omega)⟩
  · obtain ⟨s1, s2⟩ := s
    obtain ⟨e1, hK, hS⟩ := hI
    dsimp only at e1 hK hS
    subst e1
    refine ⟨((1 : Int32), s2), ?_, hK, hS⟩
    unfold lX9_sheet_93
    dsimp only
    rw [if_pos (show (24 : Int32) ≤ o32 (0 + 24) by decide)]
theorem sheet_op {m : Mem} (x y z : Int32) (h : KI m) (hs : SH m) : ∃ v m', fX9_sheet x y z m = some (v, m') ∧ KI m' ∧ SH m' := by
  obtain ⟨no1, _⟩ := fndK h hs
  have no3 := fndK3 h hs
  unfold fX9_sheet
  rcases isSheet_op x with e | ⟨k, hk, ex, e⟩
  · rw [e, Option.bind_some, if_pos rfl]
    exact no1
  · subst ex
    have bk : inb (o32 k) 4 := o_inb hk (by omega)
    have go68 : (y = 0 ∨ ∃ n, n ≤ 24 ∧ z = o32 n) → ∃ v m', bX9_sheet_68 (o32 k) y z m = some (v, m') ∧ KI m' ∧ SH m' := fun hz => by
      unfold bX9_sheet_68
      rw [if_pos bk]
      by_cases y0 : y = 0
      · rw [if_pos y0]
        exact sheet89_op (n := 0) hk (by omega) (KI_off h (by omega)) (SH_off hs (by omega))
      · rw [if_neg y0]
        obtain ⟨n, n24, en⟩ := hz.resolve_left y0
        subst en
        exact sheet89_op hk n24 (KI_off h (by omega)) (SH_off hs (by omega))
    have go36 : ∃ v m', bX9_sheet_36 (o32 k) y z m = some (v, m') ∧ KI m' ∧ SH m' := by
      unfold bX9_sheet_36
      by_cases y0 : y = 0
      · rw [if_pos y0]
        unfold bX9_sheet_51
        rw [if_pos y0]
        exact go68 (.inl y0)
      · rw [if_neg y0]
        by_cases z0 : 0 ≤ z
        · rw [if_pos z0]
          unfold bX9_sheet_51
          rw [if_neg y0]
          by_cases z24 : z ≤ 24
          · rw [if_pos z24]
            refine go68 (.inr ?_)
            rw [Int32.le_iff_toInt_le] at z0 z24
            have e0 : (0 : Int32).toInt = 0 := rfl
            have e24 : (24 : Int32).toInt = 24 := rfl
            refine ⟨z.toInt.toNat, by omega, Int32.toInt_inj.mp ?_⟩
            rw [o_ti (by omega)]
            omega
          · rw [if_neg z24]
            exact no1
        · rw [if_neg z0]
          exact no3
    rw [e, Option.bind_some, if_neg (by decide)]
    split
    · exact go36
    split
    · exact go36
    split
    · exact go36
    split
    · exact go36
    · unfold bX9_sheet_29
      exact no1
end

/-! THE FOAM's own methods keep what must hold of the model's rings -/
def MI (m : Mem) : Prop := ∃ r al, Gr r al ∧ FC r al ∧ RS m r al
/-- all but the rings, the counts of turns, vanishings and burstings, and what was found, stays -/
def Fz (m m' : Mem) : Prop := ∀ c j, ¬ (c = 138 ∧ ((12 ≤ j ∧ j < 812) ∨ (8 ≤ j ∧ j ≤ 10))) → c ≠ 141 → c ≠ 142 → m' c j = m c j
theorem RS_same {m m' : Mem} {r : Nat → List Nat} {al : Nat → Bool} (h : RS m r al) (e : ∀ j, 12 ≤ j → j < 812 → m' 138 j = m 138 j) : RS m' r al := fun b hb => ⟨by rw [e _ (by omega) (by omega)]; exact (h b hb).1, fun ha => rgAt_same ((h b hb).2 ha) (fun z h1 h2 => e z (by omega) (by omega))⟩
theorem within_n {x : Int32} (h : fX9_within x 0 15 ≠ 0) : ∃ n, n < 16 ∧ x = o32 n := by
  unfold fX9_within at h
  by_cases h1 : x < 0
  · rw [if_pos h1] at h; exact absurd rfl h
  · rw [if_neg h1] at h
    by_cases h2 : (15 : Int32) < x
    · rw [if_pos h2] at h; exact absurd rfl h
    · rw [Int32.lt_iff_toInt_lt] at h1 h2
      have e0 : (0 : Int32).toInt = 0 := rfl
      have e15 : (15 : Int32).toInt = 15 := rfl
      rw [e0] at h1
      rw [e15] at h2
      refine ⟨x.toInt.toNat, by omega, Int32.toInt_inj.mp ?_⟩
      rw [o_ti (by omega)]
      omega
theorem fnd1 (m : Mem) : fX9_finding (-1000001) m = some (-1000001, mput m 141 1 (m 141 1 + 1)) := by
  unfold fX9_finding
  rw [if_pos (by decide), if_pos (by decide)]
  rfl
theorem fnd3 (m : Mem) : fX9_finding (-1000003) m = some (-1000003, mput m 141 3 (m 141 3 + 1)) := by
  unfold fX9_finding
  rw [if_pos (by decide), if_pos (by decide)]
  rfl
theorem MI_141 {m : Mem} {k : Nat} {v : Int32} (h : MI m) : MI (mput m 141 k v) ∧ Fz m (mput m 141 k v) := by
  obtain ⟨r, al, g, f, s⟩ := h
  exact ⟨⟨r, al, g, f, RS_same s (fun j _ _ => by rw [mput_get, if_neg (by omega)])⟩, fun c j _ h1 _ => by rw [mput_get, if_neg (fun z => h1 z.1)]⟩
theorem is_any {m : Mem} {r : Nat → List Nat} {al : Nat → Bool} (hs : RS m r al) (x : Int32) : fX9_is x m = some 0 ∨ ∃ n, n < 16 ∧ x = o32 n ∧ al n = true ∧ fX9_is x m = some 1 := by
  by_cases h : fX9_within x 0 15 = 0
  · left; unfold fX9_is; rw [if_pos h]
  · obtain ⟨n, hn, e⟩ := within_n h
    subst e
    have := is_s hn hs
    by_cases ha : al n = true
    · right; rw [ha] at this; exact ⟨n, hn, rfl, ha, this⟩
    · left
      rw [Bool.eq_false_iff.mpr ha] at this
      exact this
theorem two_any {m : Mem} {r : Nat → List Nat} {al : Nat → Bool} (hs : RS m r al) (x y : Int32) : fX9_areTwo x y m = some 0 ∨ ∃ a b, a < 16 ∧ b < 16 ∧ a ≠ b ∧ x = o32 a ∧ y = o32 b ∧ al a = true ∧ al b = true ∧ fX9_areTwo x y m = some 1 := by
  unfold fX9_areTwo
  rcases is_any hs x with h | ⟨a, ha, ea, ala, h⟩
  · left; rw [h, Option.bind_some, if_pos rfl]
  · rw [h, Option.bind_some, if_neg (by decide)]
    rcases is_any hs y with h | ⟨b, hb, eb, alb, h⟩
    · left; rw [h, Option.bind_some, if_pos rfl]
    · rw [h, Option.bind_some, if_neg (by decide)]
      by_cases e : x = y
      · left; rw [if_pos e]
      · right
        rw [if_neg e]
        exact ⟨a, b, ha, hb, fun z => e (by rw [ea, eb, z]), ea, eb, ala, alb, rfl⟩
theorem wall_any {m : Mem} {r : Nat → List Nat} {al : Nat → Bool} {a b : Nat} (hs : RS m r al) (ha : a < 16) (hb : b < 16) (ala : al a = true) : (b ∈ r a ∧ fX9_isWall (o32 a) (o32 b) m = some 1) ∨ (b ∉ r a ∧ fX9_isWall (o32 a) (o32 b) m = some 0) := by
  have := isWall_s ha (show b ≤ 16 by omega) ((hs a ha).2 ala)
  by_cases h : b ∈ r a
  · rw [if_pos h] at this; exact .inl ⟨h, this⟩
  · rw [if_neg h] at this; exact .inr ⟨h, this⟩
/-- a turn that may be, at the machine -/
theorem turns_op {m : Mem} {r : Nat → List Nat} {al : Nat → Bool} {a b : Nat} (ha : a < 16) (hb : b < 16) (hs : RS m r al) (hg : Gr r al) (hf : FC r al) (ala : al a = true) (alb : al b = true) (hab : b ∈ r a) (ht : mayTurn r a b) : ∃ m', fX9_turns (o32 a) (o32 b) m = some m' ∧ Gr (turnR r a b) al ∧ FC (turnR r a b) al ∧ RS m' (turnR r a b) al ∧ Fz m m' := by
  obtain ⟨t1, t2, t3, t4⟩ := ht
  obtain ⟨m', e, s, fr⟩ := turns_s ha hb hs hg ala alb hab t1 t3
  refine ⟨_, e, turn_Gr ha hb hg ala alb hab t1 t2 t3 t4, turn_FC ha hb hg hf ala alb hab t1 t2 t3 t4, RS_put s (.inl (by omega)), fun c j h1 h2 h3 => ?_⟩
  rw [mput_get, if_neg (fun z => h1 ⟨z.1, by omega⟩)]
  exact fr c j (fun z => by obtain ⟨z1, b', z2, z3, z4⟩ := z; exact h1 ⟨z1, by omega⟩)
theorem vans_op {m : Mem} {r : Nat → List Nat} {al : Nat → Bool} {a : Nat} (ha : a < 16) (hs : RS m r al) (hg : Gr r al) (hf : FC r al) (ala : al a = true) (h3 : (r a).length = 3) : ∃ m', fX9_vanishes (o32 a) m = some m' ∧ Gr (outR r a (r a)) (offB al a) ∧ FC (outR r a (r a)) (offB al a) ∧ RS m' (outR r a (r a)) (offB al a) ∧ Fz m m' := by
  obtain ⟨m', e, s, fr, _⟩ := vanishes_s ha hs hg ala
  refine ⟨_, e, van_Gr ha hg, van_FC ha ala hg hf h3, RS_put s (.inl (by omega)), fun c j h1 h2 h3 => ?_⟩
  rw [mput_get, if_neg (fun z => h1 ⟨z.1, by omega⟩)]
  exact fr c j (fun z => h1 ⟨z.1, by omega⟩)
theorem burs_lo {m : Mem} {r : Nat → List Nat} {al : Nat → Bool} {a b x y : Nat} (ha : a < 16) (hb : b < 16) (hne : a ≠ b) (hs : RS m r al) (hg : Gr r al) (hf : FC r al) (ala : al a = true) (alb : al b = true) (hab : b ∈ r a) (hcd : prv (r a) b ≠ nxt (r a) b) (hc : ∀ x, x ∈ r a → x ∈ r b → x = prv (r a) b ∨ x = nxt (r a) b)
    (hx : min x y = a) (hy : max x y = b) (hx16 : x < 16) (hy16 : y < 16) (hxy : x ≠ y) (alx : al x = true) (aly : al y = true) : ∃ m', fX9_bursts (o32 x) (o32 y) m = some (o32 a, m') ∧ Gr (burR r al a b) (offB al b) ∧ FC (burR r al a b) (offB al b) ∧ RS m' (burR r al a b) (offB al b) ∧ Fz m m' := by
  obtain ⟨m1, e, s, fr⟩ := bursts_s hx16 hy16 hxy hs hg alx aly (by rw [hx, hy]; exact hab)
  rw [hx, hy] at e s
  have G := burst_Gr ha hb hne hg hf ala alb hab hcd hc
  have ea : burR r al a b a = seam r a b := setR_at _ _ _
  have aa : offB al b a = true := offB_t.mpr ⟨ala, hne⟩
  have l30 := Gr_len G ha aa
  rw [ea] at l30
  obtain ⟨S, F⟩ := burM_RS ha hb hne s (sw := seam r a b) (by omega) (fun x hx => (G.1 a ha aa x (by rw [ea]; exact hx)).1)
  refine ⟨_, e, G, burst_FC ha hb hne hg hf ala alb hab hcd hc, RS_put S (.inl (by omega)), fun c j h1 h2 h3 => ?_⟩
  rw [mput_get, if_neg (fun z => h1 ⟨z.1, by omega⟩), F c j (fun z => h1 ⟨z.1, by omega⟩)]
  exact fr c j (fun z => by obtain ⟨z1, b', z2, z3, z4⟩ := z; exact h1 ⟨z1, by omega⟩) h3
theorem burs_op {m : Mem} {r : Nat → List Nat} {al : Nat → Bool} {a b : Nat} (ha : a < 16) (hb : b < 16) (hne : a ≠ b) (hs : RS m r al) (hg : Gr r al) (hf : FC r al) (ala : al a = true) (alb : al b = true) (hab : b ∈ r a) (hm : mayBur r a b = true) : ∃ m', fX9_bursts (o32 a) (o32 b) m = some (o32 (min a b), m') ∧ Gr (burR r al (min a b) (max a b)) (offB al (max a b)) ∧ FC (burR r al (min a b) (max a b)) (offB al (max a b)) ∧ RS m' (burR r al (min a b) (max a b)) (offB al (max a b)) ∧ Fz m m' := by
  unfold mayBur at hm
  simp only [Bool.and_eq_true, Bool.not_eq_true', decide_eq_false_iff_not] at hm
  obtain ⟨⟨hcd, _⟩, hall⟩ := hm
  have hc : ∀ x, x ∈ r a → x ∈ r b → x = prv (r a) b ∨ x = nxt (r a) b := fun x h1 h2 => by
    have e := List.all_eq_true.mp hall x h1
    unfold okB at e
    simp only [Bool.or_eq_true, decide_eq_true_eq, Bool.not_eq_true', decide_eq_false_iff_not] at e
    rcases e with (e | e) | e
    · exact .inl e
    · exact .inr e
    · exact absurd h2 e
  have hba : a ∈ r b := ((hg.1 a ha ala b hab).2 (by omega)).2.2
  rcases Nat.lt_or_ge a b with h | h
  · rw [show min a b = a by omega, show max a b = b by omega]
    exact burs_lo ha hb hne hs hg hf ala alb hab hcd hc (by omega) (by omega) ha hb hne ala alb
  · rw [show min a b = b by omega, show max a b = a by omega]
    have f1 : prv (r b) a = nxt (r a) b := (hf a ha ala b hab (by omega)).symm
    have f2 : nxt (r b) a = prv (r a) b := hf b hb alb a hba (by omega)
    refine burs_lo hb ha hne.symm hs hg hf alb ala hba (by rw [f1, f2]; exact Ne.symm hcd) (fun x h1 h2 => ?_) (by omega) (by omega) ha hb hne ala alb
    rw [f1, f2]
    exact (hc x h2 h1).symm
theorem turn_op {m : Mem} (x y : Int32) (h : MI m) : ∃ v m', fX9_turn x y m = some (v, m') ∧ MI m' ∧ Fz m m' := by
  have h0 := h
  obtain ⟨r, al, g, f, s⟩ := h
  have no : ∃ v m', bX9_turn_34 m = some (v, m') ∧ MI m' ∧ Fz m m' := by
    unfold bX9_turn_34
    rw [fnd3]
    exact ⟨_, _, rfl, MI_141 h0⟩
  unfold fX9_turn
  rcases two_any s x y with e | ⟨a, b, ha, hb, hne, ex, ey, ala, alb, e⟩
  · rw [e, Option.bind_some, if_pos rfl, fnd1]
    exact ⟨_, _, rfl, MI_141 h0⟩
  · rw [e, Option.bind_some, if_neg (by decide)]
    subst ex ey
    rcases wall_any s ha hb ala with ⟨hw, e2⟩ | ⟨hw, e2⟩
    · rw [e2, Option.bind_some, if_neg (by decide)]
      obtain ⟨v, e3, h3⟩ := canTurn_s ha hb s g ala alb hw
      rw [e3, Option.bind_some]
      rcases h3 with ⟨hv, ht⟩ | ⟨hv, _⟩
      · rw [hv, if_neg (by decide)]
        obtain ⟨m', e4, g4, f4, s4, z4⟩ := turns_op ha hb s g f ala alb hw ht
        rw [e4, Option.bind_some, sd_o ha, Option.bind_some]
        exact ⟨_, _, rfl, ⟨_, _, g4, f4, s4⟩, z4⟩
      · rw [hv, if_pos rfl]
        exact no
    · rw [e2, Option.bind_some, if_pos rfl]
      exact no
theorem burst_op {m : Mem} (x y : Int32) (h : MI m) : ∃ v m', fX9_burst x y m = some (v, m') ∧ MI m' ∧ Fz m m' := by
  have h0 := h
  obtain ⟨r, al, g, f, s⟩ := h
  have no : ∃ v m', bX9_burst_34 m = some (v, m') ∧ MI m' ∧ Fz m m' := by
    unfold bX9_burst_34
    rw [fnd3]
    exact ⟨_, _, rfl, MI_141 h0⟩
  unfold fX9_burst
  rcases two_any s x y with e | ⟨a, b, ha, hb, hne, ex, ey, ala, alb, e⟩
  · rw [e, Option.bind_some, if_pos rfl, fnd1]
    exact ⟨_, _, rfl, MI_141 h0⟩
  · rw [e, Option.bind_some, if_neg (by decide)]
    subst ex ey
    rcases wall_any s ha hb ala with ⟨hw, e2⟩ | ⟨hw, e2⟩
    · rw [e2, Option.bind_some, if_neg (by decide), canBurst_s ha hb s g ala alb hw, Option.bind_some]
      by_cases hm : mayBur r a b = true
      · rw [hm, if_neg (by decide)]
        obtain ⟨m', e4, g4, f4, s4, z4⟩ := burs_op ha hb hne s g f ala alb hw hm
        rw [e4, Option.bind_some]
        exact ⟨_, _, rfl, ⟨_, _, g4, f4, s4⟩, z4⟩
      · rw [Bool.eq_false_iff.mpr hm, if_pos (show i01 false = 0 from rfl)]
        exact no
    · rw [e2, Option.bind_some, if_pos rfl]
      exact no
theorem many_op (m : Mem) : ∃ v, fX9_many m = some v := by
  have key := lp_ix (body := lX9_many_4 m) (fun i s => s.2 = o32 i) (fun _ => True) 16 0 ((0 : Int32), (0 : Int32)) fu rfl (fun i s _ h2 hi => ?_) (fun s hi => ?_) (lt_fu (by omega))
  · obtain ⟨e, e1, _⟩ := key
    exact ⟨e, e1⟩
  · obtain ⟨s1, s2⟩ := s
    dsimp only at hi
    subst hi
    have o0 : fX9_of (o32 i) 0 m = some (m 138 (12 + 50 * i + 0)) := of_o (f := 0) (by omega) (by omega)
    have nl : ¬ (16 : Int32) ≤ o32 i := fun z => by
      have := (o_le (a := 16) (by omega) (by omega)).mp z
      omega
    refine ⟨(s1 + m 138 (12 + 50 * i + 0), o32 i + 1), ?_, by show o32 i + 1 = _; rw [o_s]⟩
    unfold lX9_many_4
    dsimp only
    rw [if_neg nl, o0]
    rfl
  · obtain ⟨s1, s2⟩ := s
    dsimp only at hi
    subst hi
    refine ⟨s1, ?_, trivial⟩
    unfold lX9_many_4
    dsimp only
    rw [if_pos (show (16 : Int32) ≤ o32 (0 + 16) by decide)]
theorem vanish_op {m : Mem} (x : Int32) (h : MI m) : ∃ v m', fX9_vanish x m = some (v, m') ∧ MI m' ∧ Fz m m' := by
  have h0 := h
  obtain ⟨r, al, g, f, s⟩ := h
  have no : ∃ v m', bX9_vanish_32 m = some (v, m') ∧ MI m' ∧ Fz m m' := by
    unfold bX9_vanish_32
    rw [fnd3]
    exact ⟨_, _, rfl, MI_141 h0⟩
  unfold fX9_vanish
  rcases is_any s x with e | ⟨a, ha, ea, ala, e⟩
  · rw [e, Option.bind_some, if_pos rfl, fnd1]
    exact ⟨_, _, rfl, MI_141 h0⟩
  · rw [e, Option.bind_some, if_neg (by decide)]
    subst ea
    have ra := (s a ha).2 ala
    rw [sd_o ha, ra.2.1, Option.bind_some]
    by_cases h3 : (r a).length = 3
    · rw [if_pos (show o32 (r a).length = 3 by rw [h3]; rfl), canVanish_s ha s g ala, Option.bind_some]
      by_cases hm : mayVan r a = true
      · rw [hm, if_neg (by decide)]
        obtain ⟨m', e4, g4, f4, s4, z4⟩ := vans_op ha s g f ala h3
        obtain ⟨v, e5⟩ := many_op m'
        rw [e4, Option.bind_some, e5, Option.bind_some]
        exact ⟨_, _, rfl, ⟨_, _, g4, f4, s4⟩, z4⟩
      · rw [Bool.eq_false_iff.mpr hm, if_pos (show i01 false = 0 from rfl)]
        exact no
    · have := ra.1
      have n3 : ¬ o32 (r a).length = 3 := fun z => h3 ((o_eq (b := 3) (by omega) (by omega)).mp z)
      rw [if_neg n3]
      exact no

/-! BOTH: WALLS BURST -/
theorem o_rem {a b : Nat} (ha : a < 2147483648) (hb : b < 2147483648) (h0 : 0 < b) : o32 a - o32 a / o32 b * o32 b = o32 (a % b) := by
  have h := Nat.div_mul_le_self a b
  have h2 := Nat.div_add_mod a b
  rw [Nat.mul_comm] at h2
  rw [o_div ha hb h0, o_mul, o_sub h ha]
  congr 1
  omega
theorem WS_z {k : Nat} {m mr : Mem} {r : Nat → List Nat} {al : Nat → Bool} {f : Nat → Nat → Nat} {q : Nat → List Nat} (z0 : Int32) (h : WS k m (mr 138) r al f q) : WS k (mput m (cw k 1) 9 z0) (mput mr 138 3 z0 138) r al f q := by
  obtain ⟨a1, a2, a3, a4, a5, a6, a7, a8⟩ := h
  have ew : ∀ z, mput mr 138 3 z0 138 z = if z = 3 then z0 else mr 138 z := fun z => by
    rw [mput_get]
    simp only [true_and]
  refine ⟨a1, a2, RS_w a3 (fun b' hb' g hg => by rw [ew, if_neg (by omega)]), CS_same a4 (fun c z hc => ?_), FR_same a5 (fun o z h1 h2 => by rw [mput_c _ _ _ (cw_ne (by omega))]) (fun z h1 h2 => by rw [ew, if_neg (by omega)]), fun u hu => TR_same hu (a6 u hu) (fun o z ho => by rw [mput_c _ _ _ (cw_ne (by omega))]) (fun z hz => by rw [ew, if_neg (by omega)]), ?_, TP_same a8 (fun o z ho => by rw [mput_get, if_neg (fun q => by have := cw_inj q.1; omega)]) (fun z hz => by rw [ew, if_neg (by omega)])⟩
  · rcases hc with hc | hc | ⟨x, hx, hc⟩
    · rw [hc.1, mput_c _ _ _ (cw_ne (by omega))]
    · rw [hc, mput_c _ _ _ (cw_ne (by omega))]
    · rw [hc, mput_c _ _ _ (cw_ne (by omega))]
  · have c1 : ∀ j, j ≠ 9 → mput m (cw k 1) 9 z0 (cw k 1) j = m (cw k 1) j := fun j hj => mput_j _ _ _ _ hj
    have c2 : ∀ j, mput m (cw k 1) 9 z0 (cw k 2) j = m (cw k 2) j := fun j => by rw [mput_c _ _ _ (cw_ne (by omega))]
    obtain ⟨s1, s2, s3, s4, s5, s6, s7, s8, s9⟩ := a7
    unfold SC
    simp only [ew, c2]
    rw [c1 6 (by omega), c1 7 (by omega), c1 8 (by omega), c1 10 (by omega), c1 11 (by omega), mput_at]
    exact ⟨s1, s2, s3, rfl, s5, s6, s7, s8, s9⟩
theorem drawn_R {k : Nat} {m mr : Mem} (h : SC k m (mr 138)) : ∃ z i v, fX7_drawn k m = some (i, mput m (cw k 1) 9 z) ∧ fX9_drawn (mr 138 6 - mr 138 6 / 10 * 10) mr = some (v, mput mr 138 3 z) ∧ (i = 0 ↔ mr 138 6 / 10 ≤ v) := by
  obtain ⟨_, _, _, hz, _, _, ⟨n, n1, n2, n3, n4⟩, _⟩ := h
  have q1 : o32 n - o32 n / 10 * 10 = o32 (n % 10) := o_rem (b := 10) (by omega) (by omega) (by omega)
  have q2 : ¬ o32 (n % 10) = 0 := by
    rw [show (0 : Int32) = o32 0 from rfl, o_eq (by omega) (by omega)]
    exact n2
  have q3 : ¬ o32 (n % 10) ≤ 0 := by
    rw [show (0 : Int32) = o32 0 from rfl, o_le (by omega) (by omega)]
    omega
  unfold fX7_drawn fX9_drawn
  rw [n3, hz, q1, if_pos q2]
  generalize m (cw k 1) 9 * 1103515245 + 12345 = z
  rw [mput_j m _ _ z (show 8 ≠ 9 by omega), n4, q1, if_neg q3, if_pos q2, mput_at, mput_at]
  generalize jUshr z 8 = y
  by_cases c : o32 n / 10 ≤ y - y / o32 (n % 10) * o32 (n % 10)
  · rw [if_pos c]
    exact ⟨z, 0, _, rfl, rfl, fun _ => c, fun _ => rfl⟩
  · rw [if_neg c]
    exact ⟨z, 1, _, rfl, rfl, fun q => absurd q (by decide), fun q => absurd q c⟩
theorem burM_f {m : Mem} {a b : Nat} {sw : List Nat} (ha : a < 16) (hb : b < 16) (hab : a ≠ b) (hl : sw.length ≤ 44) (x j : Nat) (hx : x < 16) (h1 : 1 ≤ j) (h4 : j ≤ 4) : burM m a b sw 138 (12 + 50 * x + j) = if x = a then (if j = 1 then 6 else if j = 2 then fJ9_min_7cf53 99999 (m 138 (12 + 50 * a + 2) + m 138 (12 + 50 * b + 2)) else if j = 3 then fJ9_min_7cf53 99999 (m 138 (12 + 50 * a + 3) + m 138 (12 + 50 * b + 3)) else m 138 (12 + 50 * a + 4)) else m 138 (12 + 50 * x + j) := by
  unfold burM
  rw [mput_get, mput_get, mput_get, mput_get, mput_get]
  unfold wrM
  by_cases e : x = a
  · subst e
    rw [if_pos rfl, if_neg (by omega)]
    by_cases j1 : j = 1
    · rw [if_pos j1, if_neg (by omega), if_neg (by omega), if_pos (by omega)]
    · rw [if_neg j1]
      by_cases j2 : j = 2
      · rw [if_pos j2, if_neg (by omega), if_pos (by omega)]
      · rw [if_neg j2]
        by_cases j3 : j = 3
        · rw [if_pos j3, if_pos (by omega)]
        · rw [if_neg j3, if_neg (by omega), if_neg (by omega), if_neg (by omega), if_neg (by omega), if_neg (by omega), show j = 4 by omega]
  · rw [if_neg e, if_neg (by omega), if_neg (by omega), if_neg (by omega), if_neg (by omega), if_neg (by omega), if_neg (by omega)]
theorem unite_R {k : Nat} {m mr : Mem} {r : Nat → List Nat} {al : Nat → Bool} {f : Nat → Nat → Nat} {q : Nat → List Nat} {x y : Nat} (h : WS k m (mr 138) r al f q) (hx : x < 16) (hy : y < 16) (hne : x ≠ y) (alx : al x = true) (aly : al y = true) (hxy : y ∈ r x) (hm : mayBur r x y = true) : ∃ m' mr', fX0_unite k (o32 x) (o32 y) m = some m' ∧ fX9_bursts (o32 x) (o32 y) mr = some (o32 (min x y), mr') ∧ RW k m mr m' mr' ∧ mr' 138 6 = mr 138 6 := by
  have G := WS_1 h
  have Fc := WS_2 h
  have S := WS_3 h
  have C := WS_4 h
  have F := WS_5 h
  obtain ⟨hab, hcd, hc⟩ := mayBur_lo hx hy G Fc alx aly hxy hm
  obtain ⟨mrx, _, G', FC', _, _⟩ := burs_op hx hy hne S G Fc alx aly hxy hm
  obtain ⟨m1, e2, s2, f2⟩ := bursts_s hx hy hne S G alx aly hab
  have aA : min x y < 16 := by omega
  have aB : max x y < 16 := by omega
  have nAB : min x y ≠ max x y := by omega
  have alA : al (min x y) = true := by
    rcases Nat.le_total x y with z | z
    · rw [Nat.min_eq_left z]; exact alx
    · rw [Nat.min_eq_right z]; exact aly
  have alB : al (max x y) = true := by
    rcases Nat.le_total x y with z | z
    · rw [Nat.max_eq_right z]; exact aly
    · rw [Nat.max_eq_left z]; exact alx
  obtain ⟨m', e1, c1, f1⟩ := unite_lo (a := min x y) (b := max x y) aA aB nAB C G Fc alA alB hab hcd hc rfl rfl hx hy
  generalize hA : min x y = A at *
  generalize hB : max x y = B at *
  have ea : burR r al A B A = seam r A B := setR_at _ _ _
  have aa : offB al B A = true := offB_t.mpr ⟨alA, nAB⟩
  have l30 := Gr_len G' aA aa
  rw [ea] at l30
  obtain ⟨S3, F3⟩ := burM_RS (m := m1) aA aB nAB s2 (sw := seam r A B) (by omega) (fun z hz => (G'.1 A aA aa z (by rw [ea]; exact hz)).1)
  have fA2 := F A aA alA 2 (by omega) (by omega)
  have fB2 := F B aB alB 2 (by omega) (by omega)
  have fA3 := F A aA alA 3 (by omega) (by omega)
  have fB3 := F B aB alB 3 (by omega) (by omega)
  have lA2 : f A 2 ≤ 99999 := fA2.2.2
  have lB2 : f B 2 ≤ 99999 := fB2.2.2
  have lA3 : f A 3 ≤ 99999 := fA3.2.2
  have lB3 : f B 3 ≤ 99999 := fB3.2.2
  have m1f : ∀ z j, z < 16 → j ≤ 4 → m1 138 (12 + 50 * z + j) = mr 138 (12 + 50 * z + j) := fun z j hz hj => f2 138 _ (fun p => by obtain ⟨_, b', p2, p3, p4⟩ := p; omega) (by omega)
  have m1o : ∀ j, j < 12 ∨ 812 ≤ j → m1 138 j = mr 138 j := fun j hj => f2 138 _ (fun p => by obtain ⟨_, b', p2, p3, p4⟩ := p; omega) (by omega)
  have bo : ∀ j, j < 12 ∨ 812 ≤ j → burM m1 A B (seam r A B) 138 j = mr 138 j := fun j hj => (F3 138 j (by omega)).trans (m1o j hj)
  -- the row of the model behind
  have ew : ∀ z, mput (burM m1 A B (seam r A B)) 138 10 (mr 138 10 + 1) 138 z = if z = 10 then mr 138 10 + 1 else burM m1 A B (seam r A B) 138 z := fun z => by
    rw [mput_get]
    simp only [true_and]
  -- the class behind
  have cm : ∀ c j, ¬ (c = cw k 2 ∧ (j = 0 ∨ j = 8)) → c ≠ cw k 7 → (∀ b, b < 16 → c ≠ cw k (9 + b)) → c ≠ cw k 25 → mput m' (cw k 2) 8 (m (cw k 2) 8 + 1) c j = uniF k m A B c j := fun c j p1 p2 p3 p4 => by
    rw [mput_get, if_neg (fun z => p1 ⟨z.1, .inr z.2⟩)]
    exact f1 c j (fun z => p1 ⟨z.1, .inl z.2⟩) p2 p3 p4
  have cf : ∀ o j, o ≠ 2 → o ≠ 7 → ¬ (9 ≤ o ∧ o ≤ 25) → o ≠ 3 → o ≠ 4 → o ≠ 5 → mput m' (cw k 2) 8 (m (cw k 2) 8 + 1) (cw k o) j = m (cw k o) j := fun o j p1 p2 p3 p4 p5 p6 => by
    rw [cm _ _ (fun z => cw_ne p1 z.1) (cw_ne p2) (fun b hb => cw_ne (by omega)) (cw_ne (by omega))]
    unfold uniF
    rw [if_neg (fun z => cw_ne p6 z.1), if_neg (fun z => cw_ne p5 z.1), if_neg (fun z => cw_ne p4 z.1)]
  have cf2 : ∀ j, j ≠ 0 → j ≠ 8 → mput m' (cw k 2) 8 (m (cw k 2) 8 + 1) (cw k 2) j = m (cw k 2) j := fun j p1 p2 => by
    rw [cm _ _ (by omega) (cw_ne (by omega)) (fun b hb => cw_ne (by omega)) (cw_ne (by omega))]
    unfold uniF
    rw [if_neg (fun z => absurd z.1 (cw_ne (by omega))), if_neg (fun z => absurd z.1 (cw_ne (by omega))), if_neg (fun z => absurd z.1 (cw_ne (by omega)))]
  refine ⟨_, _, e1, e2, ⟨⟨burR r al A B, offB al B, fun z j => if z = A then (if j = 1 then 6 else if j = 2 then min 99999 (f A 2 + f B 2) else if j = 3 then min 99999 (f A 3 + f B 3) else f A j) else f z j, q, G', FC', RS_w (w := burM m1 A B (seam r A B) 138) S3 (fun b hb g hg => by rw [ew, if_neg (by omega)]), CS_same c1 (fun c j hc => ?_), fun z hz az j h1 h4 => ?_, fun u hu => TR_same hu (WS_6 h u hu) (fun o j ho => cf o j (by omega) (by omega) (by omega) (by omega) (by omega) (by omega)) (fun j hj => by rw [ew, if_neg (by omega), bo j (by omega)]), ?_, TP_same (WS_8 h) (fun o j ho => cf o j (by omega) (by omega) (by omega) (by omega) (by omega) (by omega)) (fun j hj => by rw [ew, if_neg (by omega), bo j (by omega)])⟩, fun c j hc => ?_, fun c j h1 h2 h3 h4 h5 => ?_, ?_⟩, ?_⟩
  · rw [mput_get, if_neg (fun z => ?_)]
    rcases hc with hc | hc | ⟨v, hv, hc⟩
    · omega
    · exact absurd (hc.symm.trans z.1) (cw_ne (by omega))
    · exact absurd (hc.symm.trans z.1) (cw_ne (by omega))
  · have az0 := (offB_t.mp az).1
    have zB := (offB_t.mp az).2
    have fz := F z hz az0 j h1 h4
    rw [ew, if_neg (by omega), burM_f aA aB nAB (by omega) z j hz h1 h4, cm _ _ (fun p => absurd p.1 (cw_ne (by omega))) (cw_ne (by omega)) (fun b hb => cw_ne (by omega)) (cw_ne (by omega))]
    unfold uniF
    dsimp only
    by_cases e : z = A
    · subst e
      simp only [↓reduceIte, and_true]
      have cj : ∀ a b : Nat, a ≠ b → (cw k a = cw k b) = False := fun a b h => eq_false (cw_ne h)
      rw [m1f z 2 hz (by omega), m1f B 2 aB (by omega), m1f z 3 hz (by omega), m1f B 3 aB (by omega), m1f z 4 hz (by omega), fA2.1, fB2.1, fA3.1, fB3.1, show m (cw k 5) z = _ from fA3.2.1, show m (cw k 5) B = _ from fB3.2.1, show m (cw k 4) z = _ from fA2.2.1, show m (cw k 4) B = _ from fB2.2.1, o_add, o_add, show fJ9_min_7cf53 99999 (o32 (f z 2 + f B 2)) = _ from min_b (a := 99999) (by omega) (by omega), show fJ9_min_7cf53 99999 (o32 (f z 3 + f B 3)) = _ from min_b (a := 99999) (by omega) (by omega)]
      by_cases j1 : j = 1
      · subst j1
        simp only [↓reduceIte, cj 3 5 (by omega), cj 3 4 (by omega)]
        exact ⟨rfl, rfl, by decide⟩
      · by_cases j2 : j = 2
        · subst j2
          simp only [↓reduceIte, cj 4 5 (by omega), show ((2 : Nat) = 1) = False by decide]
          exact ⟨trivial, trivial, Nat.min_le_left _ _⟩
        · by_cases j3 : j = 3
          · subst j3
            simp only [↓reduceIte, show ((3 : Nat) = 1) = False by decide, show ((3 : Nat) = 2) = False by decide]
            exact ⟨trivial, trivial, Nat.min_le_left _ _⟩
          · have j4 : j = 4 := by omega
            subst j4
            simp only [↓reduceIte, cj 6 5 (by omega), cj 6 4 (by omega), cj 6 3 (by omega), show ((4 : Nat) = 1) = False by decide, show ((4 : Nat) = 2) = False by decide, show ((4 : Nat) = 3) = False by decide]
            exact fz
    · simp only [e, and_false, ↓reduceIte]
      rw [m1f z j hz h4]
      exact fz
  · obtain ⟨s1, s2, s3, s4, s5⟩ := WS_7 h
    unfold SC
    simp only [ew]
    have c1 : ∀ j, mput m' (cw k 2) 8 (m (cw k 2) 8 + 1) (cw k 1) j = m (cw k 1) j := fun j => cf 1 j (by omega) (by omega) (by omega) (by omega) (by omega) (by omega)
    simp only [c1]
    rw [cf2 6 (by omega) (by omega), cf2 7 (by omega) (by omega), mput_at, bo 8 (by omega), bo 9 (by omega), bo 3 (by omega), bo 4 (by omega), bo 5 (by omega), bo 6 (by omega), bo 0 (by omega), bo 7 (by omega)]
    exact ⟨s1, s2, by rw [if_pos trivial, s3], s4, s5⟩
  · rw [mput_c _ _ _ (hc 2 (by omega) (by omega)), f1 c j (fun z => hc 2 (by omega) (by omega) z.1) (hc 7 (by omega) (by omega)) (fun b hb => hc (9 + b) (by omega) (by omega)) (hc 25 (by omega) (by omega))]
    unfold uniF
    rw [if_neg (fun z => hc 5 (by omega) (by omega) z.1), if_neg (fun z => hc 4 (by omega) (by omega) z.1), if_neg (fun z => hc 3 (by omega) (by omega) z.1)]
  · rw [mput_c _ _ _ h1, F3 c j (fun z => h1 z.1)]
    exact f2 c j (fun z => h1 z.1) h2
  · rw [ew, if_neg (by omega), bo 0 (by omega)]
  · rw [ew, if_neg (by omega), bo 6 (by omega)]

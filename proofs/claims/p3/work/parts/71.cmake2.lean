/-! THE CLASS: A NEW FOAM -/
def flM (m : Mem) (c n : Nat) (x : Int32) : Mem := fun c' j => if c' = c ∧ j < n then x else m c' j
theorem flM_0 (m : Mem) (c : Nat) (x : Int32) : flM m c 0 x = m := by
  funext c' j
  unfold flM
  rw [if_neg (by omega)]
theorem flM_s (m : Mem) (c n : Nat) (x : Int32) : mput (flM m c n x) c n x = flM m c (n + 1) x := by
  funext c' j
  rw [mput_get]
  unfold flM
  by_cases h1 : c' = c ∧ j = n
  · rw [if_pos h1, if_pos ⟨h1.1, by omega⟩]
  · rw [if_neg h1]
    by_cases h2 : c' = c ∧ j < n
    · rw [if_pos h2, if_pos ⟨h2.1, by omega⟩]
    · rw [if_neg h2, if_neg (by omega)]
theorem fill16 (c : Nat) (x : Int32) (m : Mem) : fJ7_fill_53178_16 c x m = some (flM m c 16 x) := by
  unfold fJ7_fill_53178_16
  have st := lp_fwd (body := lJ7_fill_53178_16_5 c x 16) (e := flM m c 16 x) 16 (fun j => (o32 j, flM m c j x)) fu (fun j hj => ?_) ?_ (lt_fu (by omega))
  · skip
    rw [flM_0] at st
    exact st
  · unfold lJ7_fill_53178_16_5
    dsimp only
    rw [if_neg (not_16 hj), if_pos (o_inb hj (by omega)), o_tn (by omega), o_s, flM_s]
  · unfold lJ7_fill_53178_16_5
    rfl
/-- the class's memory while a new FOAM is laid: the first n BUBBLES stand -/
def CJ (k w : Nat) (h : Nat) (g : Int32) (m1 m : Mem) (n : Nat) : Prop := (∃ z, z < 65536 ∧ m (cw k 2) 0 = o32 z ∧ ∀ b, b < 16 → z.testBit b = decide (b < n)) ∧ (∀ b, b < 16 → cg k m b (if b < n then R0 w h b else [])) ∧ (∀ b, b < 16 → b < n → m (cw k 3) b = 0 ∧ m (cw k 4) b = g ∧ m (cw k 5) b = 0 ∧ m (cw k 6) b = o32 (b / w)) ∧ ∀ c j, ¬ (c = cw k 2 ∧ j = 0) → (∀ q, 3 ≤ q → q ≤ 24 → q ≠ 8 → c ≠ cw k q) → m c j = m1 c j
theorem makeRing_c {k : Nat} {m : Mem} {b w h j i : Nat} (hb : b < 16) (hw : w < 5) (hh : h < 5) (hj : j < 4) (hi : i < 4) (hrow : m (cw k 6) b = o32 j) : ∃ m', fX0_makeRing k (o32 b) (o32 w) (o32 h) (o32 i) m = some m' ∧ cg k m' b (trimR (ring6 w h j i (i + j % 2))) ∧ offC k m m' b := by
  unfold fX0_makeRing
  rw [if_pos (o_inb hb (by omega)), o_tn (by omega), hrow]
  by_cases p : j % 2 = 1
  · rw [if_pos ((par4 j hj).mpr p)]
    exact ring_c hb hw hh hj hi p hrow
  · rw [if_neg (fun z => p ((par4 j hj).mp z))]
    exact ringa_c hb hw hh hj hi (by omega) hrow
theorem cj_step {k w h j i : Nat} {g : Int32} {m1 m : Mem} {s : Int32 × Mem} (hw : 1 ≤ w) (hw4 : w ≤ 4) (hh4 : h ≤ 4) (hj : j < h) (hi : i < w) (hs1 : s.1 = o32 i) (hs2 : s.2 = m) (hc : CJ k w h g m1 m (j * w + i)) : ∃ m', lX0_make_40 k (o32 w) (o32 h) g (o32 j) s = some (.inl (o32 (i + 1), m')) ∧ CJ k w h g m1 m' (j * w + (i + 1)) := by
  obtain ⟨⟨z, z1, z2, z3⟩, c2, c3, c4⟩ := hc
  have hjw : j * w ≤ 3 * w := Nat.mul_le_mul_right w (by omega)
  have hn : j * w + i < 16 := by omega
  have dv : (j * w + i) / w = j := by rw [Nat.add_comm, Nat.add_mul_div_right _ _ (by omega), Nat.div_eq_of_lt hi, Nat.zero_add]
  have md : (j * w + i) % w = i := by rw [Nat.add_comm, Nat.add_mul_mod_self_right, Nat.mod_eq_of_lt hi]
  have hR : R0 w h (j * w + i) = trimR (ring6 w h j i (i + j % 2)) := by unfold R0; rw [dv, md]
  unfold lX0_make_40
  have nl : ¬ o32 w ≤ o32 i := fun q => by
    have := (o_le (by omega) (by omega)).mp q
    omega
  rw [hs1, hs2, if_neg nl, o_mul, o_add, if_neg (not_16 hn), if_pos (o_inb hn (by omega)), if_pos (o_inb hn (by omega)), if_pos (o_inb hn (by omega)), if_pos (o_inb hn (by omega)), o_tn (by omega), shl_tab _ (by omega), z2, o_or, o_s]
  generalize hN : j * w + i = n at *
  generalize hM : mput (mput (mput (mput (mput m (cw k 2) 0 (o32 (z ||| 2 ^ n))) (cw k 3) n 0) (cw k 4) n g) (cw k 5) n 0) (cw k 6) n (o32 j) = m2
  have g2 : ∀ c x, m2 c x = if c = cw k 6 ∧ x = n then o32 j else if c = cw k 5 ∧ x = n then 0 else if c = cw k 4 ∧ x = n then g else if c = cw k 3 ∧ x = n then 0 else if c = cw k 2 ∧ x = 0 then o32 (z ||| 2 ^ n) else m c x := fun c x => by
    rw [← hM, mput_get, mput_get, mput_get, mput_get, mput_get]
  obtain ⟨m', e1, r1, o1⟩ := makeRing_c (k := k) (m := m2) (b := n) (w := w) (h := h) (j := j) (i := i) hn (by omega) (by omega) (by omega) (by omega) (by rw [g2, if_pos ⟨rfl, rfl⟩])
  rw [e1, Option.bind_some]
  have far : ∀ q, q ≠ 7 → ∀ x, (∀ b, b < 16 → q ≠ 9 + b) → m' (cw k q) x = m2 (cw k q) x := fun q h1 x h2 => o1 _ _ (fun zz => cw_ne h1 zz.1) (cw_ne (h2 n hn))
  refine ⟨m', rfl, ⟨z ||| 2 ^ n, ?_, ?_, fun b hb => ?_⟩, fun b hb => ?_, fun b hb hbn => ?_, fun c x h1 h2 => ?_⟩
  · exact Nat.or_lt_two_pow (n := 16) z1 (Nat.pow_lt_pow_right (by omega) hn)
  · rw [far 2 (by omega) 0 (fun b _ => by omega), g2, if_neg (fun q => cw_ne (by omega) q.1), if_neg (fun q => cw_ne (by omega) q.1), if_neg (fun q => cw_ne (by omega) q.1), if_neg (fun q => cw_ne (by omega) q.1), if_pos ⟨rfl, rfl⟩]
  · rw [Nat.testBit_or, z3 b hb, Nat.testBit_two_pow]
    by_cases e : b = n
    · rw [decide_eq_true e.symm, Bool.or_true, decide_eq_true (by omega)]
    · by_cases e2 : b < n
      · rw [decide_eq_true e2, Bool.true_or, decide_eq_true (by omega)]
      · rw [decide_eq_false e2, Bool.false_or, show decide (n = b) = false from decide_eq_false (fun q => e q.symm), decide_eq_false (by omega)]
  · by_cases e : b = n
    · subst e
      rw [if_pos (by omega), hR]
      exact r1
    · have q := c2 b hb
      have q2 : cg k m2 b (if b < n then R0 w h b else []) := ⟨q.1, by
        rw [g2, if_neg (fun q => cw_ne (by omega) q.1), if_neg (fun q => cw_ne (by omega) q.1), if_neg (fun q => cw_ne (by omega) q.1), if_neg (fun q => cw_ne (by omega) q.1), if_neg (fun q => cw_ne (by omega) q.1)]
        exact q.2.1, q.2.2.1, fun x hx => by
        rw [g2, if_neg (fun q => cw_ne (by omega) q.1), if_neg (fun q => cw_ne (by omega) q.1), if_neg (fun q => cw_ne (by omega) q.1), if_neg (fun q => cw_ne (by omega) q.1), if_neg (fun q => cw_ne (by omega) q.1)]
        exact q.2.2.2 x hx⟩
      have q3 := cg_off q2 o1 e
      by_cases e2 : b < n
      · rw [if_pos e2] at q3
        rw [if_pos (by omega)]
        exact q3
      · rw [if_neg e2] at q3
        rw [if_neg (by omega)]
        exact q3
  · rw [far 3 (by omega) b (fun b _ => by omega), far 4 (by omega) b (fun b _ => by omega), far 5 (by omega) b (fun b _ => by omega), far 6 (by omega) b (fun b _ => by omega)]
    by_cases e : b = n
    · subst e
      rw [g2, g2, g2, g2, if_neg (fun q => cw_ne (by omega) q.1), if_neg (fun q => cw_ne (by omega) q.1), if_neg (fun q => cw_ne (by omega) q.1), if_pos ⟨rfl, rfl⟩, if_neg (fun q => cw_ne (by omega) q.1), if_neg (fun q => cw_ne (by omega) q.1), if_pos ⟨rfl, rfl⟩, if_neg (fun q => cw_ne (by omega) q.1), if_pos ⟨rfl, rfl⟩, if_pos ⟨rfl, rfl⟩, dv]
      exact ⟨rfl, rfl, rfl, rfl⟩
    · have q := c3 b hb (by omega)
      rw [g2, g2, g2, g2]
      simp only [e, and_false, ↓reduceIte]
      rw [if_neg (fun q => cw_ne (by omega) q.1), if_neg (fun q => cw_ne (by omega) q.1), if_neg (fun q => cw_ne (by omega) q.1), if_neg (fun q => cw_ne (by omega) q.1)]
      exact q
  · rw [o1 _ _ (fun zz => h2 7 (by omega) (by omega) (by omega) zz.1) (h2 (9 + n) (by omega) (by omega) (by omega)), g2, if_neg (fun q => h2 6 (by omega) (by omega) (by omega) q.1), if_neg (fun q => h2 5 (by omega) (by omega) (by omega) q.1), if_neg (fun q => h2 4 (by omega) (by omega) (by omega) q.1), if_neg (fun q => h2 3 (by omega) (by omega) (by omega) q.1), if_neg h1]
    exact c4 c x h1 h2
theorem crow_s {k w h j : Nat} {g : Int32} {m1 m : Mem} (hw : 1 ≤ w) (hw4 : w ≤ 4) (hh4 : h ≤ 4) (hj : j < h) (hc : CJ k w h g m1 m (j * w)) : ∃ m', lX0_make_31 k (o32 w) (o32 h) g (o32 j, m) = some (.inl (o32 (j + 1), m')) ∧ CJ k w h g m1 m' ((j + 1) * w) := by
  have key := lp_ix (body := lX0_make_40 k (o32 w) (o32 h) g (o32 j)) (fun i s => s.1 = o32 i ∧ CJ k w h g m1 s.2 (j * w + i)) (fun e => ∃ m', e = .inl (o32 (j + 1), m') ∧ CJ k w h g m1 m' ((j + 1) * w)) w 0 ((0 : Int32), m) fu ⟨rfl, hc⟩ (fun i s _ h2 hi => ?_) (fun s hi => ?_) (lt_fu (by omega))
  · obtain ⟨e, e1, m', e2, e3⟩ := key
    refine ⟨m', ?_, e3⟩
    unfold lX0_make_31
    dsimp only
    have nl : ¬ o32 h ≤ o32 j := fun z => by
      have := (o_le (by omega) (by omega)).mp z
      omega
    rw [if_neg nl, e1, e2]
  · obtain ⟨s1, s2⟩ := s
    obtain ⟨h1, h3⟩ := hi
    dsimp only at h1 h3
    subst h1
    obtain ⟨m', q1, q2⟩ := cj_step (s := (o32 i, s2)) hw hw4 hh4 hj (by omega) rfl rfl h3
    exact ⟨_, q1, rfl, q2⟩
  · obtain ⟨s1, s2⟩ := s
    obtain ⟨h1, h3⟩ := hi
    dsimp only at h1 h3
    subst h1
    refine ⟨_, ?_, s2, rfl, ?_⟩
    · unfold lX0_make_40
      dsimp only
      rw [if_pos ((o_le (by omega) (by omega)).mpr (by omega)), o_s]
    · rw [show (j + 1) * w = j * w + (0 + w) by rw [Nat.succ_mul]; omega]
      exact h3
/-- what the class's make leaves -/
def MakeOut (k w h : Nat) (g : Int32) (m m' : Mem) : Prop := CS k m' (R0 w h) (A0 w h) ∧ (∀ b, b < 16 → b < w * h → m' (cw k 3) b = 0 ∧ m' (cw k 4) b = g ∧ m' (cw k 5) b = 0 ∧ m' (cw k 6) b = o32 (b / w)) ∧ m' (cw k 2) 6 = 0 ∧ m' (cw k 2) 7 = 0 ∧ m' (cw k 2) 8 = 0 ∧ ∀ c j, c ≠ cw k 2 → (∀ q, 3 ≤ q → q ≤ 24 → q ≠ 8 → c ≠ cw k q) → m' c j = m c j
theorem make_c {k : Nat} {m : Mem} {w h : Nat} {g : Int32} (hw : 1 ≤ w) (hw4 : w ≤ 4) (hh : 1 ≤ h) (hh4 : h ≤ 4) : ∃ m', fX0_make k (o32 w) (o32 h) g m = some m' ∧ MakeOut k w h g m m' := by
  unfold fX0_make
  rw [fill16, Option.bind_some]
  generalize hM : flM (mput (mput (mput (mput m (cw k 2) 0 0) (cw k 2) 6 0) (cw k 2) 7 0) (cw k 2) 8 0) (cw k 7) 16 0 = m1
  have g1 : ∀ c j, m1 c j = if c = cw k 7 ∧ j < 16 then 0 else if c = cw k 2 ∧ j = 8 then 0 else if c = cw k 2 ∧ j = 7 then 0 else if c = cw k 2 ∧ j = 6 then 0 else if c = cw k 2 ∧ j = 0 then 0 else m c j := fun c j => by
    rw [← hM]
    unfold flM
    rw [mput_get, mput_get, mput_get, mput_get]
  have e2 : ∀ j, m1 (cw k 2) j = if j = 8 then 0 else if j = 7 then 0 else if j = 6 then 0 else if j = 0 then 0 else m (cw k 2) j := fun j => by
    rw [g1, if_neg (fun q => cw_ne (by omega) q.1)]
    simp only [true_and]
  have st : CJ k w h g m1 m1 (0 * w) := by
    refine ⟨⟨0, by omega, by rw [e2]; rfl, fun b hb => by simp⟩, fun b hb => ?_, fun b hb hbn => absurd hbn (by omega), fun _ _ _ _ => rfl⟩
    rw [if_neg (by omega)]
    exact ⟨by decide, by rw [g1, if_pos ⟨rfl, hb⟩]; rfl, fun y hy => (List.not_mem_nil hy).elim, fun i hi => absurd hi (by simp)⟩
  have key := lp_ix (body := lX0_make_31 k (o32 w) (o32 h) g) (fun j s => s.1 = o32 j ∧ CJ k w h g m1 s.2 (j * w)) (fun m' => CJ k w h g m1 m' (h * w)) h 0 ((0 : Int32), m1) fu ⟨rfl, st⟩ (fun j s _ h2 hi => ?_) (fun s hi => ?_) (lt_fu (by omega))
  · obtain ⟨m', e1, ⟨z, z1, z2, z3⟩, c2, c3, c4⟩ := key
    refine ⟨m', e1, ⟨⟨z, z1, z2, fun b hb => by rw [z3 b hb, Nat.mul_comm]; rfl⟩, fun b hb => ?_⟩, fun b hb hbn => c3 b hb (by rw [Nat.mul_comm]; exact hbn), ?_, ?_, ?_, fun c j h1 h2 => ?_⟩
    · have q := c2 b hb
      unfold A0
      by_cases e : b < w * h
      · rw [if_pos (by rw [Nat.mul_comm]; exact e)] at q
        rw [if_pos (decide_eq_true e)]
        exact q
      · rw [if_neg (by rw [Nat.mul_comm]; exact e)] at q
        rw [if_neg (by rw [decide_eq_false e]; decide)]
        exact q
    · rw [c4 _ _ (by omega) (fun q _ _ _ => cw_ne (by omega)), e2]; rfl
    · rw [c4 _ _ (by omega) (fun q _ _ _ => cw_ne (by omega)), e2]; rfl
    · rw [c4 _ _ (by omega) (fun q _ _ _ => cw_ne (by omega)), e2]; rfl
    · rw [c4 c j (fun q => h1 q.1) h2, g1, if_neg (fun q => h2 7 (by omega) (by omega) (by omega) q.1), if_neg (fun q => h1 q.1), if_neg (fun q => h1 q.1), if_neg (fun q => h1 q.1), if_neg (fun q => h1 q.1)]
  · obtain ⟨s1, s2⟩ := s
    obtain ⟨h1, h3⟩ := hi
    dsimp only at h1 h3
    subst h1
    obtain ⟨m', q1, q2⟩ := crow_s hw hw4 hh4 (by omega) h3
    exact ⟨_, q1, rfl, q2⟩
  · obtain ⟨s1, s2⟩ := s
    obtain ⟨h1, h3⟩ := hi
    dsimp only at h1 h3
    subst h1
    rw [Nat.zero_add] at h3 ⊢
    refine ⟨s2, ?_, h3⟩
    unfold lX0_make_31
    dsimp only
    rw [if_pos ((o_le (by omega) (by omega)).mpr (by omega))]

/-! the model's texts at work -/
def okC (v : Int32) (d d' : Nat) : Prop := (20000 ≤ v ∧ ((v = 20010 ∧ 1 ≤ d ∧ d' = d) ∨ (v ≠ 20010 ∧ 2 ≤ d ∧ d' + 1 = d))) ∨ (¬ 20000 ≤ v ∧ (10000 ≤ v → inb (v - 10000) 5) ∧ d' = d + 1)
/-- the three texts are rows that a pile of 60 can work -/
def TX (m : Mem) : Prop := ∀ i, i < 3 → ∃ n, n ≤ 60 ∧ m 138 (896 + 62 * i) = o32 n ∧ ∃ dep : Nat → Nat, dep 0 = 0 ∧ ∀ k, k < n → okC (m 138 (896 + 62 * i + 1 + k)) (dep k) (dep (k + 1))
theorem TX_same {m m' : Mem} (h : TX m) (e : ∀ j, 812 ≤ j → m' 138 j = m 138 j) : TX m' := fun i hi => by
  obtain ⟨n, h1, h2, dep, h3, h4⟩ := h i hi
  exact ⟨n, h1, by rw [e _ (by omega)]; exact h2, dep, h3, fun k hk => by rw [e _ (by omega)]; exact h4 k hk⟩
theorem ite_s {p : Prop} [Decidable p] {a b : Option Int32} (ha : p → ∃ w, a = some w) (hb : ¬ p → ∃ w, b = some w) : ∃ w, (if p then a else b) = some w := by
  by_cases h : p
  · rw [if_pos h]; exact ha h
  · rw [if_neg h]; exact hb h
theorem some_s (v : Int32) : ∃ w, some v = some w := ⟨v, rfl⟩
theorem done_op (a b c : Int32) : ∃ w, fX9_done a b c = some w := by
  unfold fX9_done
  refine ite_s (fun _ => ite_s (fun _ => ite_s (fun _ => some_s _) (fun _ => some_s _)) (fun _ => some_s _)) (fun _ => ?_)
  refine ite_s (fun _ => ite_s (fun _ => some_s _) (fun _ => ite_s (fun _ => some_s _) (fun _ => some_s _))) (fun _ => ?_)
  refine ite_s (fun _ => ite_s (fun _ => some_s _) (fun _ => some_s _)) (fun _ => ?_)
  refine ite_s (fun _ => ite_s (fun _ => some_s _) (fun _ => some_s _)) (fun _ => ?_)
  refine ite_s (fun _ => ite_s (fun _ => some_s _) (fun _ => some_s _)) (fun _ => ?_)
  refine ite_s (fun _ => some_s _) (fun _ => ?_)
  refine ite_s (fun _ => some_s _) (fun _ => ?_)
  refine ite_s (fun _ => some_s _) (fun _ => ?_)
  refine ite_s (fun _ => ite_s (fun _ => some_s _) (fun h => ite_s (fun _ => some_s _) (fun h2 => absurd h h2))) (fun _ => ?_)
  exact ite_s (fun _ => some_s _) (fun h => ite_s (fun _ => some_s _) (fun h2 => absurd h h2))
theorem less1 {d : Nat} (h : 1 ≤ d) (h2 : d < 1000) : o32 d + -1 = o32 (d - 1) := by
  rw [← Int32.sub_eq_add_neg]
  exact o_sub (b := 1) h (by omega)
theorem less1' {d : Nat} (h : 1 ≤ d) (h2 : d < 100000) : o32 d - 1 = o32 (d - 1) := o_sub (b := 1) h (by omega)
def F146 (m m' : Mem) : Prop := ∀ c j, c ≠ 145 → c ≠ 146 → m' c j = m c j
theorem worked_op {m : Mem} {i : Nat} (hi : i < 3) (h : TX m) : ∃ v m', fX9_worked (o32 (896 + 62 * i + 1)) m = some (v, m') ∧ F146 m m' := by
  obtain ⟨n, h1, h2, dep, h3, h4⟩ := h i hi
  have dle : ∀ k, k ≤ n → dep k ≤ k := fun k => by
    induction k with
    | zero => intro _; omega
    | succ k ih =>
      intro hk
      have := ih (by omega)
      rcases h4 k (by omega) with ⟨_, ⟨_, _, e⟩ | ⟨_, _, e⟩⟩ | ⟨_, _, e⟩ <;> omega
  have e0 : o32 (896 + 62 * i + 1) - 1 = o32 (896 + 62 * i) := less1' (by omega) (by omega)
  have key := lp_ix (body := lX9_worked_4 (o32 (896 + 62 * i + 1))) (fun k s => s.1 = o32 (dep k) ∧ s.2.1 = o32 (896 + 62 * i + 1 + k) ∧ F146 m s.2.2) (fun e => F146 m e.2) n 0 ((0 : Int32), o32 (896 + 62 * i + 1), m) fu ⟨by rw [h3]; rfl, rfl, fun _ _ _ _ => rfl⟩ (fun k s _ hk hI => ?_) (fun s hI => ?_) (lt_fu (by omega))
  · obtain ⟨⟨v, m'⟩, e1, e2⟩ := key
    exact ⟨v, m', e1, e2⟩
  · obtain ⟨s1, s2, s3⟩ := s
    obtain ⟨q1, q2, q3⟩ := hI
    dsimp only at q1 q2 q3
    subst q1 q2
    have hd := dle k (by omega)
    have en : s3 138 (896 + 62 * i) = o32 n := by rw [q3 _ _ (by omega) (by omega), h2]
    have ec : s3 138 (896 + 62 * i + 1 + k) = m 138 (896 + 62 * i + 1 + k) := q3 _ _ (by omega) (by omega)
    have fr : ∀ j v, F146 m (mput s3 146 j v) := fun j v c z a1 a2 => by rw [mput_get, if_neg (fun w => a2 w.1)]; exact q3 c z a1 a2
    unfold lX9_worked_4
    dsimp only
    have nle : ¬ o32 (896 + 62 * i + 1) + s3 138 (896 + 62 * i) ≤ o32 (896 + 62 * i + 1 + k) := fun z => by
      rw [en, o_add] at z
      have := (o_le (by omega) (by omega)).mp z
      omega
    rw [e0, if_pos (o_inb (by omega) (by omega)), o_tn (by omega), if_neg nle, if_pos (o_inb (by omega) (by omega)), o_tn (by omega)]
    have ok := h4 k (by omega)
    rw [← ec] at ok
    rcases ok with ⟨g1, ⟨g2, g3, g4⟩ | ⟨g2, g3, g4⟩⟩ | ⟨g1, g2, g3⟩
    · rw [if_pos g1, if_pos g2, less1' g3 (by omega), if_pos (o_inb (by omega) (by omega))]
      unfold bX9_worked_101
      rw [if_pos (o_inb (by omega) (by omega)), if_pos (o_inb (by omega) (by omega))]
      split
      · exact ⟨_, rfl, by rw [g4], by show o32 _ + 1 = _; rw [o_s]; rfl, fr _ _⟩
      · exact ⟨_, rfl, by rw [g4], by show o32 _ + 1 = _; rw [o_s]; rfl, fr _ _⟩
    · rw [if_pos g1, if_neg g2, less1 (by omega) (by omega), less1' (by omega) (by omega), if_pos (o_inb (by omega) (by omega)), if_pos (o_inb (by omega) (by omega))]
      obtain ⟨w, ew⟩ := done_op (s3 138 (896 + 62 * i + 1 + k)) (s3 146 (o32 (dep k - 1 - 1)).toNatClampNeg) (s3 146 (o32 (dep k - 1)).toNatClampNeg)
      rw [ew, Option.bind_some, if_pos (o_inb (by omega) (by omega))]
      exact ⟨_, rfl, by show o32 (dep k - 1) = _; rw [show dep k - 1 = dep (k + 1) by omega], by show o32 _ + 1 = _; rw [o_s]; rfl, fr _ _⟩
    · rw [if_neg g1]
      have psh : ∀ y2, ∃ s', bX9_worked_63 (o32 (896 + 62 * i + 1)) (o32 (dep k)) (o32 (896 + 62 * i + 1 + k)) (o32 (dep k)) y2 s3 = some (.inl s') ∧ s'.1 = o32 (dep (k + 1)) ∧ s'.2.1 = o32 (896 + 62 * i + 1 + (k + 1)) ∧ F146 m s'.2.2 := fun y2 => by
        unfold bX9_worked_63
        rw [if_pos (o_inb (by omega) (by omega))]
        exact ⟨_, rfl, by show o32 _ + 1 = _; rw [o_s, g3], by show o32 _ + 1 = _; rw [o_s]; rfl, fr _ _⟩
      by_cases g5 : 10000 ≤ s3 138 (896 + 62 * i + 1 + k)
      · rw [if_pos g5, if_pos (g2 g5)]
        exact psh _
      · rw [if_neg g5]
        exact psh _
  · obtain ⟨s1, s2, s3⟩ := s
    obtain ⟨q1, q2, q3⟩ := hI
    dsimp only at q1 q2 q3
    subst q1 q2
    have en : s3 138 (896 + 62 * i) = o32 n := by rw [q3 _ _ (by omega) (by omega), h2]
    refine ⟨(s3 146 0, s3), ?_, q3⟩
    unfold lX9_worked_4
    dsimp only
    have le : o32 (896 + 62 * i + 1) + s3 138 (896 + 62 * i) ≤ o32 (896 + 62 * i + 1 + (0 + n)) := by
      rw [en, o_add]
      exact (o_le (by omega) (by omega)).mpr (by omega)
    rw [e0, if_pos (o_inb (by omega) (by omega)), o_tn (by omega), if_pos le]
theorem hasText_op {m : Mem} {i : Nat} (hi : i < 3) : fX9_hasText (o32 i) m = some 0 ∨ fX9_hasText (o32 i) m = some 1 := by
  have e : (896 : Int32) + 62 * o32 i = o32 (896 + 62 * i) := by
    show o32 896 + o32 62 * o32 i = _
    rw [o_mul, o_add]
  unfold fX9_hasText
  rw [e, if_pos (o_inb (by omega) (by omega))]
  split
  · exact .inl rfl
  · exact .inr rfl
theorem given_op {m : Mem} {i : Nat} (hi : i < 3) (h : TX m) (a b c d e : Int32) : ∃ v m', fX9_given (o32 i) a b c d e m = some (v, m') ∧ F146 m m' := by
  have e1 : (896 : Int32) + 62 * o32 i + 1 = o32 (896 + 62 * i + 1) := by
    show o32 896 + o32 62 * o32 i + o32 1 = _
    rw [o_mul, o_add, o_add]
  unfold fX9_given
  let m5 := mput (mput (mput (mput (mput m 145 0 a) 145 1 b) 145 2 c) 145 3 d) 145 4 e
  have f5 : F146 m m5 := fun c' j h1 h2 => by
    show mput (mput (mput (mput (mput m 145 0 a) 145 1 b) 145 2 c) 145 3 d) 145 4 e c' j = _
    rw [mput_get, if_neg (by omega), mput_get, if_neg (by omega), mput_get, if_neg (by omega), mput_get, if_neg (by omega), mput_get, if_neg (by omega)]
  rw [show mput (mput (mput (mput (mput m 145 0 a) 145 1 b) 145 2 c) 145 3 d) 145 4 e = m5 from rfl]
  rcases hasText_op (m := m5) hi with q | q
  · rw [q, Option.bind_some, if_pos rfl]
    exact ⟨_, _, rfl, f5⟩
  · rw [q, Option.bind_some, if_neg (by decide), e1]
    obtain ⟨v, m', w1, w2⟩ := worked_op hi (TX_same h (fun j _ => f5 138 j (by omega) (by omega)))
    rw [w1, Option.bind_some]
    exact ⟨_, _, rfl, fun c' j h1 h2 => (w2 c' j h1 h2).trans (f5 c' j h1 h2)⟩

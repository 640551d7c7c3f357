/-! THE MODEL'S BITS; MARKED; WHAT IS COUNTED -/
theorem kb_tab : all256 (fun h => all256 (fun l => Nat.beq (Nat.add (Nat.mul 256 h) l) 0 || Nat.beq (Nat.succ (bcN (Nat.land (Nat.add (Nat.mul 256 h) l) (Nat.pred (Nat.add (Nat.mul 256 h) l))))) (bcN (Nat.add (Nat.mul 256 h) l))) 256) 256 = true := by decide +kernel
theorem kb_ok {n : Nat} (h : n < 65536) (h0 : 0 < n) : pc (n &&& (n - 1)) + 1 = pc n := by
  have e := all256_of 256 (all256_of 256 kb_tab (n / 256) (by omega)) (n % 256) (Nat.mod_lt _ (by omega))
  have e2 : Nat.add (Nat.mul 256 (n / 256)) (n % 256) = n := Nat.div_add_mod n 256
  rw [e2, Bool.or_eq_true] at e
  have hl : n &&& (n - 1) < 65536 := Nat.lt_of_le_of_lt Nat.and_le_left h
  rw [← pc_F, ← pc_F, ← bc_ok h, ← bc_ok hl]
  rcases e with e | e
  · have := Nat.eq_of_beq_eq_true e
    omega
  · exact Nat.eq_of_beq_eq_true e
theorem pc_0 {n : Nat} (h : n < 65536) (h0 : pc n = 0) : n = 0 := by
  by_cases e : n = 0
  · exact e
  · have := kb_ok h (by omega)
    omega
theorem bits_s {n : Nat} (h : n < 65536) : fX9_bits (o32 n) = some (o32 (pc n)) := by
  unfold fX9_bits
  have go : ∀ d c n z, n < 65536 → pc n = d → d < z → lp lX9_bits_4 z (o32 c, o32 n) = some (o32 (c + d)) := by
    intro d
    induction d with
    | zero =>
      intro c n z hn hd hz
      obtain ⟨z, rfl⟩ : ∃ y, z = y + 1 := ⟨z - 1, by omega⟩
      have e := pc_0 hn hd
      subst e
      exact lp_e (by unfold lX9_bits_4; rw [if_pos (show (o32 c, o32 0).2 = 0 from rfl)]; rfl)
    | succ d ih =>
      intro c n z hn hd hz
      obtain ⟨z, rfl⟩ : ∃ y, z = y + 1 := ⟨z - 1, by omega⟩
      have n0 : 0 < n := by
        by_cases e : n = 0
        · subst e
          have : pc 0 = 0 := by decide
          omega
        · omega
      have hk := kb_ok hn n0
      have e1 : lX9_bits_4 (o32 c, o32 n) = some (.inl (o32 (c + 1), o32 (n &&& (n - 1)))) := by
        unfold lX9_bits_4
        dsimp only
        rw [if_neg (by rw [show (0 : Int32) = o32 0 from rfl, o_eq (by omega) (by omega)]; omega), o_s, show o32 n - 1 = o32 (n - 1) from o_sub (b := 1) (by omega) (by omega), o_and]
      rw [lp_i e1, ih (c + 1) (n &&& (n - 1)) z (Nat.lt_of_le_of_lt Nat.and_le_left hn) (by omega) (by omega), show c + 1 + d = c + (d + 1) by omega]
  have := go (pc n) 0 n fu h rfl (by have := pc_le n; exact lt_fu (by omega))
  rw [Nat.zero_add] at this
  exact this
theorem there_s {mr : Mem} {r : Nat → List Nat} {al : Nat → Bool} (h : RS mr r al) : ∃ n, n < 65536 ∧ fX9_there mr = some (o32 n) ∧ ∀ x, x < 16 → n.testBit x = al x := by
  unfold fX9_there
  have key := lp_ix (body := lX9_there_4 mr) (fun i s => s.2 = o32 i ∧ ∃ n, n < 65536 ∧ s.1 = o32 n ∧ ∀ x, x < 16 → n.testBit x = (al x && decide (x < i))) (fun e => ∃ n, n < 65536 ∧ e = o32 n ∧ ∀ x, x < 16 → n.testBit x = al x) 16 0 ((0 : Int32), (0 : Int32)) fu ⟨rfl, 0, by omega, rfl, fun x _ => by simp⟩ (fun i s _ hi hI => ?_) (fun s hI => ?_) (lt_fu (by omega))
  · obtain ⟨e, e1, n, e2, e3, e4⟩ := key
    exact ⟨n, e2, by rw [e1, e3], e4⟩
  · obtain ⟨i1, n, i2, i3, i4⟩ := hI
    have hi : i < 16 := by omega
    unfold lX9_there_4
    rw [i1, i3, if_neg (not_16 hi), is_s hi h, Option.bind_some]
    have step : ∀ x, x < 16 → x ≠ i → (al x && decide (x < i)) = (al x && decide (x < i + 1)) := fun x _ hx => by
      by_cases c : x < i
      · rw [decide_eq_true c, decide_eq_true (by omega)]
      · rw [decide_eq_false c, decide_eq_false (by omega)]
    cases ai : al i with
    | false =>
      rw [if_pos (show i01 false = 0 from rfl), show o32 n ||| 0 = o32 (n ||| 0) from o_or n 0, Nat.or_zero, o_s]
      refine ⟨_, rfl, rfl, n, i2, rfl, fun x hx => ?_⟩
      rw [i4 x hx]
      by_cases e : x = i
      · rw [e, ai]; rfl
      · exact step x hx e
    | true =>
      have sb := set_bit i2 hi
      rw [if_neg (show ¬ i01 true = 0 by decide), shl_tab i (by omega), o_or, o_s]
      refine ⟨_, rfl, rfl, _, sb.1, rfl, fun x hx => ?_⟩
      rw [sb.2, i4 x hx]
      by_cases e : x = i
      · rw [e, ai, decide_eq_true rfl, Bool.or_true, decide_eq_true (by omega)]
        rfl
      · rw [decide_eq_false e, Bool.or_false]
        exact step x hx e
  · obtain ⟨i1, n, i2, i3, i4⟩ := hI
    unfold lX9_there_4
    rw [i1, i3, if_pos (by decide)]
    exact ⟨_, rfl, n, i2, rfl, fun x hx => by rw [i4 x hx, decide_eq_true (by omega), Bool.and_true]⟩
theorem besides_s {m : Mem} {r : Nat → List Nat} {al : Nat → Bool} {b : Nat} (hs : RS m r al) (hg : Gr r al) (hb : b < 16) (alb : al b = true) : ∃ n, n < 65536 ∧ fX9_besides (o32 b) m = some (o32 n) ∧ ∀ x, x < 16 → n.testBit x = decide (x ∈ r b) := by
  have g := (hs b hb).2 alb
  have lb := g.1
  unfold fX9_besides
  have key := lp_ix (body := lX9_besides_4 (o32 b) m) (fun i s => s.2 = o32 i ∧ ∃ n, n < 65536 ∧ s.1 = o32 n ∧ ∀ x, x < 16 → n.testBit x = decide (x ∈ (r b).take i)) (fun e => ∃ n, n < 65536 ∧ e = o32 n ∧ ∀ x, x < 16 → n.testBit x = decide (x ∈ r b)) (r b).length 0 ((0 : Int32), (0 : Int32)) fu ⟨rfl, 0, by omega, rfl, fun x _ => by simp⟩ (fun i s _ hi hI => ?_) (fun s hI => ?_) (lt_fu (by omega))
  · obtain ⟨e, e1, n, e2, e3, e4⟩ := key
    exact ⟨n, e2, by rw [e1, e3], e4⟩
  · obtain ⟨i1, n, i2, i3, i4⟩ := hI
    have hi : i < (r b).length := by omega
    have px := hg.1 b hb alb _ (List.getElem_mem hi)
    unfold lX9_besides_4
    rw [sd_o hb, g.2.1, Option.bind_some, i1, i3, if_neg (by rw [o_le (by omega) (by omega)]; omega), rg_o hb (by omega), Option.bind_some, g.2.2.2 i hi]
    have tk := tk1 hi
    generalize (r b)[i] = x at px tk
    by_cases e : x = 16
    · rw [e, if_pos (show o32 16 = 16 from rfl), show o32 n ||| 0 = o32 (n ||| 0) from o_or n 0, Nat.or_zero, o_s]
      refine ⟨_, rfl, rfl, n, i2, rfl, fun y hy => ?_⟩
      rw [i4 y hy, tk]
      by_cases hm : y ∈ (r b).take i
      · rw [decide_eq_true hm, decide_eq_true (List.mem_append_left _ hm)]
      · rw [decide_eq_false hm, decide_eq_false (fun z => by
          rcases List.mem_append.mp z with z | z
          · exact hm z
          · have := List.mem_singleton.mp z; omega)]
    · have hx : x < 16 := by omega
      have sb := set_bit i2 hx
      rw [if_neg (fun z => e ((e16 px.1).mp z)), shl_tab x (by omega), o_or, o_s]
      refine ⟨_, rfl, rfl, _, sb.1, rfl, fun y hy => ?_⟩
      rw [sb.2, i4 y hy, tk]
      by_cases hm : y ∈ (r b).take i
      · rw [decide_eq_true hm, Bool.true_or, decide_eq_true (List.mem_append_left _ hm)]
      · rw [decide_eq_false hm, Bool.false_or]
        by_cases e2 : y = x
        · rw [decide_eq_true e2, decide_eq_true (List.mem_append_right _ (List.mem_singleton.mpr e2))]
        · rw [decide_eq_false e2, decide_eq_false (fun z => by
            rcases List.mem_append.mp z with z | z
            · exact hm z
            · exact e2 (List.mem_singleton.mp z))]
  · obtain ⟨i1, n, i2, i3, i4⟩ := hI
    rw [Nat.zero_add] at i1 i4
    rw [List.take_length] at i4
    unfold lX9_besides_4
    rw [sd_o hb, g.2.1, Option.bind_some, i1, i3, if_pos (by rw [o_le (by omega) (by omega)]; omega)]
    exact ⟨_, rfl, n, i2, rfl, i4⟩
theorem pc_add {n i : Nat} (hi : i < 16) (h : n.testBit i = false) : pc (n ||| 2 ^ i) = pc n + 1 := by
  have e := sum_upd (f := fun x => if n.testBit x then 1 else 0) (g := fun x => if (n ||| 2 ^ i).testBit x then 1 else 0) (b := i) 16 hi (fun x hx => by
    rw [Nat.testBit_or, Nat.testBit_two_pow, show decide (i = x) = false from decide_eq_false (fun z => hx z.symm), Bool.or_false])
  rw [h, Nat.testBit_or, Nat.testBit_two_pow, decide_eq_true rfl, Bool.or_true, if_neg (show ¬ false = true by decide), if_pos rfl, Nat.add_zero] at e
  unfold pc
  exact e
theorem marked_o {mc mr : Mem} (h : RLx mc mr) (x : Int32) : Sm (fX8_marked x mc) (fX9_marked x mr) := by
  have hh := h
  obtain ⟨⟨r, al, f, q, w⟩, _⟩ := h
  unfold fX8_marked fX9_marked
  rw [wi_eq]
  by_cases z : fX9_within x 0 2 = 0
  · rw [if_pos z, if_pos z]
    exact err1 hh
  · rw [if_neg z, if_neg z]
    obtain ⟨e, g, e1, e2, e3, e4⟩ := lp_two (bs := lX8_marked_25 x) (bt := lX9_marked_23 x) (fun i s t => s.2.2.2.1 = o32 i ∧ t.2.2.1 = o32 i ∧ (∃ n, n < 65536 ∧ s.1 = o32 (pc n) ∧ s.2.1 = o32 n ∧ t.1 = o32 n ∧ ∀ y, i ≤ y → y < 16 → n.testBit y = false) ∧ s.2.2.1 = t.2.1 ∧ WS 0 s.2.2.2.2 (t.2.2.2 138) r al f q ∧ NF 0 mc s.2.2.2.2 ∧ F146 mr t.2.2.2) (fun e g => e.1 = g.1 ∧ RLx e.2 g.2) 16 0 (0, 0, 0, 0, mc) (0, 0, 0, mr) fu fu ⟨rfl, rfl, ⟨0, by omega, rfl, rfl, rfl, fun y _ _ => Nat.zero_testBit y⟩, rfl, w, NF_rf, F146_rf⟩ (fun i s t _ hi hJ => by
      obtain ⟨j1, j2, ⟨n, n1, n2, n3, n4, n5⟩, j3, j4, j5, j6⟩ := hJ
      have hi : i < 16 := by omega
      unfold lX8_marked_25 lX9_marked_23
      rw [j1, j2, n2, n3, n4, j3, if_neg (not_16 hi), if_neg (not_16 hi), has_c (WS_4 j4) hi, is_s hi (WS_3 j4), Option.bind_some]
      have fin : ∀ v m1 mr1, WS 0 m1 (mr1 138) r al f q → NF 0 mc m1 → F146 mr mr1 → ∃ s' t', bX8_marked_60 x (o32 (pc n)) (o32 n) t.2.1 (o32 i) v m1 = some (.inl s') ∧ bX9_marked_49 x (o32 n) t.2.1 (o32 i) v mr1 = some (.inl t') ∧ s'.2.2.2.1 = o32 (i + 1) ∧ t'.2.2.1 = o32 (i + 1) ∧ (∃ n, n < 65536 ∧ s'.1 = o32 (pc n) ∧ s'.2.1 = o32 n ∧ t'.1 = o32 n ∧ ∀ y, i + 1 ≤ y → y < 16 → n.testBit y = false) ∧ s'.2.2.1 = t'.2.1 ∧ WS 0 s'.2.2.2.2 (t'.2.2.2 138) r al f q ∧ NF 0 mc s'.2.2.2.2 ∧ F146 mr t'.2.2.2 := fun v m1 mr1 k1 k2 k3 => by
        unfold bX8_marked_60 bX9_marked_49
        by_cases v0 : v = 0
        · rw [if_pos v0, if_pos v0, v0, show o32 n ||| 0 = o32 (n ||| 0) from o_or n 0, Nat.or_zero, o_s]
          exact ⟨_, _, rfl, rfl, rfl, rfl, ⟨n, n1, rfl, rfl, rfl, fun y y1 y2 => n5 y (by omega) y2⟩, (Int32.add_zero _).symm, k1, k2, k3⟩
        · have sb := set_bit n1 hi
          rw [if_neg v0, if_neg v0, shl_tab i (by omega), o_or, o_s, o_s, ← pc_add hi (n5 i (Nat.le_refl _) hi)]
          exact ⟨_, _, rfl, rfl, rfl, rfl, ⟨_, sb.1, rfl, rfl, rfl, fun y y1 y2 => by rw [sb.2, n5 y (by omega) y2, decide_eq_false (by omega)]; rfl⟩, rfl, k1, k2, k3⟩
      cases ai : al i with
      | false =>
        rw [if_pos (show i01 false = 0 from rfl), if_pos (show i01 false = 0 from rfl)]
        exact fin 0 _ _ j4 j5 j6
      | true =>
        obtain ⟨v, m1, mr1, d1, d2, d3, d4⟩ := mark_R j4 hi ai
        rw [if_neg (show ¬ i01 true = 0 by decide), if_neg (show ¬ i01 true = 0 by decide), d1, d2, Option.bind_some, Option.bind_some]
        exact fin v m1 mr1 (WS_NF j4 d3 d4) (fun c j hc => (d3 c j hc).trans (j5 c j hc)) (fun c j h1 h2 => (d4 c j h1 h2).trans (j6 c j h1 h2))) (fun s t hJ => by
      obtain ⟨j1, j2, ⟨n, n1, n2, n3, n4, n5⟩, j3, j4, j5, j6⟩ := hJ
      have R := RL_k hh ⟨r, al, f, q, j4⟩ (CK_CF (NF_CF j5)) (MK_MF (F146_MF j6))
      unfold lX8_marked_25 lX9_marked_23
      rw [j1, j2, n2, n3, n4, j3, if_pos (show (16 : Int32) ≤ o32 (0 + 16) by decide), if_pos (show (16 : Int32) ≤ o32 (0 + 16) by decide), bits_s n1, Option.bind_some]
      by_cases x0 : x = 0
      · rw [if_pos x0, if_pos x0]
        exact ⟨_, _, rfl, rfl, rfl, R⟩
      · rw [if_neg x0, if_neg x0]
        by_cases x1 : x = 1
        · rw [if_pos x1, if_pos x1]
          exact ⟨_, _, rfl, rfl, rfl, R⟩
        · rw [if_neg x1, if_neg x1]
          exact ⟨_, _, rfl, rfl, rfl, R⟩) (lt_fu (by omega)) (lt_fu (by omega))
    obtain ⟨v, m'⟩ := e
    obtain ⟨v', mr'⟩ := g
    dsimp only at e3 e4
    subst e3
    exact ⟨v, m', mr', e1, e2, e4⟩

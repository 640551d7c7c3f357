/-! WAY, ON -/
theorem lp_map {S E : Type} {body : S → Option (S ⊕ E)} {s : S} {n : Nat} {X : Option E} (h : body s = X.map Sum.inr) : lp body (n + 1) s = X := by
  unfold lp
  rw [h]
  cases X <;> rfl
theorem all_m {m : Mem} {r : Nat → List Nat} {al : Nat → Bool} {M : Nat} {x2 : Int32} {i : Nat} (h : RS m r al) (hg : Gr r al) (hM : M < 65536) (hal : ∀ x, x < 16 → M.testBit x = true → al x = true) : lp (lX9_way_53 x2 (o32 M) (o32 i) m) fu (o32 M, 0) = some (.inl (o32 (M ||| nxI (NB r al) M 16), o32 M, o32 (i + 1))) := by
  have key := lp_ix (body := lX9_way_53 x2 (o32 M) (o32 i) m) (fun j s => s.1 = o32 (M ||| nxI (NB r al) M j) ∧ s.2 = o32 j) (fun e => e = .inl (o32 (M ||| nxI (NB r al) M 16), o32 M, o32 (i + 1))) 16 0 (o32 M, (0 : Int32)) fu ⟨by show o32 M = o32 (M ||| 0); rw [Nat.or_zero], rfl⟩ (fun j s _ hi hI => ?_) (fun s hI => ?_) (lt_fu (by omega))
  · obtain ⟨e, e1, e2⟩ := key
    rw [e1, e2]
  · obtain ⟨i1, i2⟩ := hI
    unfold lX9_way_53
    rw [i1, i2, if_neg (not_16 (by omega)), has_bit hM (by omega), o_s]
    cases c : M.testBit j with
    | true =>
      rw [if_neg (show ¬ i01 true = 0 by decide), beside_mN h hg (by omega) (hal j (by omega) c), Option.bind_some, o_or, Nat.or_assoc]
      exact ⟨_, rfl, by show _ = o32 (M ||| (if M.testBit j then nxI (NB r al) M j ||| NB r al j else nxI (NB r al) M j)); rw [c, if_pos rfl], rfl⟩
    | false =>
      rw [if_pos (show i01 false = 0 by decide), show o32 (M ||| nxI (NB r al) M j) ||| 0 = o32 ((M ||| nxI (NB r al) M j) ||| 0) from o_or _ 0, Nat.or_zero]
      exact ⟨_, rfl, by show _ = o32 (M ||| (if M.testBit j then nxI (NB r al) M j ||| NB r al j else nxI (NB r al) M j)); rw [c, if_neg (by decide)], rfl⟩
  · obtain ⟨i1, i2⟩ := hI
    unfold lX9_way_53
    rw [i1, i2, if_pos (show (16 : Int32) ≤ o32 (0 + 16) by decide), o_s]
    exact ⟨_, rfl, rfl⟩
theorem nxI_al {r : Nat → List Nat} {al : Nat → Bool} {M : Nat} (hg : Gr r al) : ∀ i, i ≤ 16 → ∀ x, x < 16 → (nxI (NB r al) M i).testBit x = true → al x = true
  | 0, _, x, _, h => by
    unfold nxI at h
    rw [Nat.zero_testBit] at h
    exact absurd h (by decide)
  | i + 1, hi, x, hx, h => by
    have ih := nxI_al (M := M) hg i (by omega) x hx
    have h : (if M.testBit i then nxI (NB r al) M i ||| NB r al i else nxI (NB r al) M i).testBit x = true := h
    by_cases c : M.testBit i = true
    · rw [if_pos c, Nat.testBit_or] at h
      cases e : (nxI (NB r al) M i).testBit x with
      | true => exact ih e
      | false =>
        rw [e, Bool.false_or, (NB_s r al i).2, Bool.and_eq_true, Bool.and_eq_true] at h
        exact ((CS_m (k := 0) (m := fun _ _ => 0) hg (show i < 16 by omega) h.2.1 (of_decide_eq_true h.2.2)).2 (by omega)).2.1
    · rw [if_neg c] at h
      exact ih h
theorem sum_mono (f g : Nat → Nat) : ∀ n, (∀ x, x < n → f x ≤ g x) → ((List.range n).map f).sum ≤ ((List.range n).map g).sum ∧ ((∃ x, x < n ∧ f x < g x) → ((List.range n).map f).sum < ((List.range n).map g).sum)
  | 0, _ => ⟨Nat.le_refl _, fun ⟨x, h, _⟩ => absurd h (by omega)⟩
  | n + 1, h => by
    obtain ⟨i1, i2⟩ := sum_mono f g n (fun x hx => h x (by omega))
    have hn := h n (by omega)
    rw [List.range_succ, List.map_append, List.map_append, List.sum_append, List.sum_append]
    simp only [List.map_cons, List.map_nil, List.sum_cons, List.sum_nil]
    refine ⟨by omega, fun ⟨x, hx, hf⟩ => ?_⟩
    by_cases e : x = n
    · subst e; omega
    · have := i2 ⟨x, by omega, hf⟩
      omega
theorem pc_up {M N : Nat} (hM : M < 65536) (hN : N < 65536) (hne : M ||| N ≠ M) : pc M < pc (M ||| N) := by
  refine (sum_mono _ _ 16 (fun x _ => ?_)).2 ?_
  · rw [Nat.testBit_or]
    cases M.testBit x <;> cases N.testBit x <;> decide
  · have : ∃ x, x < 16 ∧ M.testBit x = false ∧ N.testBit x = true := by
      refine Classical.byContradiction fun hx => hne ?_
      refine bits_eq (Nat.or_lt_two_pow (n := 16) hM hN) hM fun x hx16 => ?_
      rw [Nat.testBit_or]
      cases a : M.testBit x with
      | true => rfl
      | false =>
        cases b : N.testBit x with
        | false => rfl
        | true => exact absurd ⟨x, hx16, a, b⟩ hx
    obtain ⟨x, x1, x2, x3⟩ := this
    exact ⟨x, x1, by rw [Nat.testBit_or, x2, x3]; decide⟩
theorem pc_16 (M : Nat) : pc M ≤ 16 := by
  have := (sum_mono (fun i => if M.testBit i then 1 else 0) (fun _ => 1) 16 (fun x _ => by split <;> omega)).1
  exact Nat.le_trans this (by decide)
theorem way_o {mc mr : Mem} (h : RLx mc mr) (x y : Int32) : Sm (fX8_way x y mc) (fX9_way x y mr) := by
  have hh := h
  obtain ⟨⟨r, al, f, q, w⟩, _⟩ := h
  have hg := WS_1 w
  unfold fX8_way fX9_way fX8_areBubbles bX9_way_16
  rcases isb w x with ⟨a1, a2⟩ | ⟨a, a1, a2, a3, a4, a5⟩
  · rw [if_pos a1, a2, if_pos rfl, Option.bind_some, if_pos rfl]
    exact err1 hh
  rw [a4, a5, if_neg one0, Option.bind_some, if_neg one0]
  rcases isb w y with ⟨b1, b2⟩ | ⟨b, b1, b2, b3, b4, b5⟩
  · rw [if_pos b1, b2, if_pos rfl, Option.bind_some, if_pos rfl]
    exact err1 hh
  rw [b4, b5, if_neg one0, if_neg one0, Option.bind_some, if_neg one0, a2, b2]
  obtain ⟨m1, k1, k2, k3, k4⟩ := look_c (WS_4 w) hg
  rw [k1, Option.bind_some]
  have R : RLx m1 mr := RL_k hh ⟨r, al, f, q, WS_same w (fun c j hc => k2 c j (by obtain ⟨o, e, _⟩ := hc; unfold cw at e; omega) (by obtain ⟨o, e, _⟩ := hc; unfold cw at e; omega)) (fun _ => rfl)⟩ (fun c j hc => k2 c j (by omega) (by omega)) MK_rf
  unfold fX3_wallsBetween
  rw [shl_tab a (by omega)]
  have B1 : ∀ M, M < 65536 → nxI (NB r al) M 16 < 65536 := fun M _ => nxI_lt (fun c _ => (NB_s r al c).1) 16 (Nat.le_refl _)
  -- a mask that stands
  have stand : ∀ M, M < 65536 → M.testBit b = false → M ||| nxI (NB r al) M 16 = M → ∀ d i z, i + d = 16 → d < z → lp (lX3_wallsBetween_7 (o32 b) m1) z (o32 M, o32 i) = some (-1) := fun M hM hb hs d => by
    induction d with
    | zero =>
      intro i z hi hz
      obtain ⟨z, rfl⟩ : ∃ y, z = y + 1 := ⟨z - 1, by omega⟩
      refine lp_e ?_
      unfold lX3_wallsBetween_7
      dsimp only
      rw [if_pos (show (16 : Int32) ≤ o32 i by rw [show i = 16 by omega]; decide)]
    | succ d ih =>
      intro i z hi hz
      obtain ⟨z, rfl⟩ : ∃ y, z = y + 1 := ⟨z - 1, by omega⟩
      have s1 : lX3_wallsBetween_7 (o32 b) m1 (o32 M, o32 i) = some (.inl (o32 M, o32 (i + 1))) := by
        unfold lX3_wallsBetween_7
        dsimp only
        rw [if_neg (not_16 (by omega)), bit1 (by omega) (by omega), hb, if_neg (show ¬ false = true by decide), if_neg (show ¬ (0 : Int32) = 1 by decide), any_c hM k4, Option.bind_some, o_or, hs, o_s]
      rw [lp_i s1]
      exact ih (i + 1) z (by omega) (by omega)
  have last : ∀ {d : Nat} (i M P z z' : Nat), i + d = 16 → d < z → d < z' → M < 65536 → M = P → M.testBit b = false → M ||| nxI (NB r al) M 16 = M → ∃ v, lp (lX3_wallsBetween_7 (o32 b) m1) z (o32 M, o32 i) = some v ∧ Sm (if 0 ≤ v then some (v, m1) else (fX8_no 2 m1).bind fun q5 => some (q5.1, q5.2)) (lp (lX9_way_33 (o32 b) mr) z' (o32 M, o32 P, o32 i)) := fun {d} i M P z z' hi hz hz' hM e1 e2 e3 => by
    refine ⟨-1, stand M hM e2 e3 d i z hi hz, ?_⟩
    subst e1
    obtain ⟨z', rfl⟩ : ∃ y, z' = y + 1 := ⟨z' - 1, by omega⟩
    have hm : lX9_way_33 (o32 b) mr (o32 M, o32 M, o32 i) = ((fX9_finding (-1000002) mr).bind fun q6 => some (q6.1, q6.2)).map Sum.inr := by
      unfold lX9_way_33 bX9_way_95
      dsimp only
      rw [has_bit hM b1, e2, if_pos (show i01 false = 0 by decide), if_pos rfl, if_pos (show i01 false = 0 by decide)]
    rw [lp_map hm, if_neg (show ¬ (0 : Int32) ≤ -1 by decide)]
    exact err2 R
  have go : ∀ d i M P z z', i + d = 16 → d < z → d < z' → M < 65536 → P < 65536 → (∀ x, x < 16 → M.testBit x = true → al x = true) → (M ≠ P ∧ i + 1 ≤ pc M) ∨ (M = P ∧ M.testBit b = false ∧ M ||| nxI (NB r al) M 16 = M) → ∃ v, lp (lX3_wallsBetween_7 (o32 b) m1) z (o32 M, o32 i) = some v ∧ Sm (if 0 ≤ v then some (v, m1) else (fX8_no 2 m1).bind fun q5 => some (q5.1, q5.2)) (lp (lX9_way_33 (o32 b) mr) z' (o32 M, o32 P, o32 i)) := fun d => by
    induction d with
    | zero =>
      intro i M P z z' hi hz hz' hM hP hal hI
      rcases hI with ⟨_, p1⟩ | ⟨e1, e2, e3⟩
      · have := pc_16 M
        exact absurd p1 (by omega)
      · exact last i M P z z' hi hz hz' hM e1 e2 e3
    | succ d ih =>
      intro i M P z z' hi hz hz' hM hP hal hI
      rcases hI with ⟨p0, p1⟩ | ⟨e1, e2, e3⟩
      · obtain ⟨z, rfl⟩ : ∃ y, z = y + 1 := ⟨z - 1, by omega⟩
        obtain ⟨z', rfl⟩ : ∃ y, z' = y + 1 := ⟨z' - 1, by omega⟩
        cases c : M.testBit b with
        | true =>
          refine ⟨o32 i, lp_e ?_, ?_⟩
          · unfold lX3_wallsBetween_7
            dsimp only
            rw [if_neg (not_16 (by omega)), bit1 (by omega) (by omega), c, if_pos rfl, if_pos rfl]
          · have hm : lX9_way_33 (o32 b) mr (o32 M, o32 P, o32 i) = some (.inr (o32 i, mr)) := by
              unfold lX9_way_33 bX9_way_95
              dsimp only
              rw [has_bit hM b1, c, if_neg (show ¬ i01 true = 0 by decide), if_neg (show ¬ i01 true = 0 by decide)]
              rfl
            rw [lp_e hm, if_pos (show (0 : Int32) ≤ o32 i by rw [show (0 : Int32) = o32 0 from rfl, o_le (by omega) (by omega)]; omega)]
            exact ⟨_, _, _, rfl, rfl, R⟩
        | false =>
          have s1 : lX3_wallsBetween_7 (o32 b) m1 (o32 M, o32 i) = some (.inl (o32 (M ||| nxI (NB r al) M 16), o32 (i + 1))) := by
            unfold lX3_wallsBetween_7
            dsimp only
            rw [if_neg (not_16 (by omega)), bit1 (by omega) (by omega), c, if_neg (show ¬ false = true by decide), if_neg (show ¬ (0 : Int32) = 1 by decide), any_c hM k4, Option.bind_some, o_or, o_s]
          have s2 : lX9_way_33 (o32 b) mr (o32 M, o32 P, o32 i) = some (.inl (o32 (M ||| nxI (NB r al) M 16), o32 M, o32 (i + 1))) := by
            have ne : ¬ o32 M = o32 P := fun e => p0 ((o_eq (by omega) (by omega)).mp e)
            unfold lX9_way_33
            dsimp only
            rw [has_bit hM b1, c, if_pos (show i01 false = 0 by decide), if_neg ne]
            exact all_m (WS_3 w) hg hM hal
          rw [lp_i s1, lp_i s2]
          have hN := B1 M hM
          refine ih (i + 1) _ M z z' (by omega) (by omega) (by omega) (Nat.or_lt_two_pow (n := 16) hM hN) hM (fun x hx hb => ?_) ?_
          · rw [Nat.testBit_or, Bool.or_eq_true] at hb
            rcases hb with hb | hb
            · exact hal x hx hb
            · exact nxI_al hg 16 (Nat.le_refl _) x hx hb
          · by_cases e : M ||| nxI (NB r al) M 16 = M
            · right
              rw [e]
              exact ⟨rfl, c, e⟩
            · left
              have := pc_up hM hN e
              exact ⟨e, by omega⟩
      · exact last i M P z z' hi hz hz' hM e1 e2 e3
  have t0 : (2 ^ a : Nat) < 65536 := Nat.pow_lt_pow_right (n := 16) (a := 2) (by omega) a1
  obtain ⟨v, v1, v2⟩ := go 16 0 (2 ^ a) 0 fu fu rfl (lt_fu (by omega)) (lt_fu (by omega)) t0 (by omega) (fun c hc hb => by
    rw [Nat.testBit_two_pow] at hb
    rw [← of_decide_eq_true hb]
    exact a3) (.inl ⟨by have := Nat.two_pow_pos a; omega, by
      have e0 : pc 0 = 0 := by decide
      have := pc_up (M := 0) (N := 2 ^ a) (by omega) t0 (by rw [Nat.zero_or]; have := Nat.two_pow_pos a; omega)
      rw [Nat.zero_or, e0] at this
      omega⟩)
  have v1 : lp (lX3_wallsBetween_7 (o32 b) m1) fu (o32 (2 ^ a), 0) = some v := v1
  rw [v1, Option.bind_some]
  exact v2

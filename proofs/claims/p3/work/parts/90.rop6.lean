/-! ACTS THAT TELL; WHAT WAITS -/
theorem lp_twi {S T E F : Type} {bs : S → Option (S ⊕ E)} {bt : T → Option (T ⊕ F)} (J : S → T → Prop) (μ : S → Nat) (Q : E → F → Prop) (st : ∀ s t, J s t → (∃ s' t', bs s = some (.inl s') ∧ bt t = some (.inl t') ∧ J s' t' ∧ μ s' < μ s) ∨ ∃ e f, bs s = some (.inr e) ∧ bt t = some (.inr f) ∧ Q e f) : ∀ (n n' : Nat) (s : S) (t : T), J s t → μ s < n → μ s < n' → ∃ e f, lp bs n s = some e ∧ lp bt n' t = some f ∧ Q e f
  | 0, _, _, _, _, h, _ => absurd h (by omega)
  | _ + 1, 0, _, _, _, _, h => absurd h (by omega)
  | n + 1, n' + 1, s, t, h, h1, h2 => by
    rcases st s t h with ⟨s', t', e1, e2, e3, e4⟩ | ⟨e, f, e1, e2, e3⟩
    · rw [lp_i e1, lp_i e2]
      exact lp_twi J μ Q st n n' s' t' e3 (by omega) (by omega)
    · rw [lp_e e1, lp_e e2]
      exact ⟨e, f, rfl, rfl, e3⟩
theorem Sm_of {a b : Option (Int32 × Mem)} (h : ∃ e g, a = some e ∧ b = some g ∧ e.1 = g.1 ∧ RLx e.2 g.2) : Sm a b := by
  obtain ⟨⟨v, m⟩, ⟨v', m'⟩, h1, h2, h3, h4⟩ := h
  dsimp only at h3 h4
  subst h3
  exact ⟨v, m, m', h1, h2, h4⟩
theorem pace_o {mc mr : Mem} (h : RLx mc mr) (x : Int32) : Sm (fX8_pace x mc) (fX9_pace x mr) := by
  have hh := h
  obtain ⟨⟨r, al, f, q, w⟩, _⟩ := h
  unfold fX8_pace fX9_pace
  rcases isb w x with ⟨a1, a2⟩ | ⟨a, a1, a2, a3, a4, a5⟩
  · rw [if_pos a1, a2, Option.bind_some, if_pos rfl]
    exact err1 hh
  · rw [a4, a5, if_neg one0, Option.bind_some, if_neg one0, a2, if_pos (o_inb a1 (by omega)), sd_c w a1 a3, sd_m w a1 a3, Option.bind_some, rate_eq (WS_7 w)]
    exact ⟨_, _, _, rfl, rfl, hh⟩
theorem sides_o {mc mr : Mem} (h : RLx mc mr) (x : Int32) : Sm (fX8_sides x mc) (fX9_sides x mr) := by
  have hh := h
  obtain ⟨⟨r, al, f, q, w⟩, _⟩ := h
  unfold fX8_sides fX9_sides
  rw [wi_eq]
  by_cases z : fX9_within x 0 60 = 0
  · rw [if_pos z, if_pos z]
    exact err1 hh
  · rw [if_neg z, if_neg z]
    apply Sm_of
    refine lp_two (bs := lX8_sides_20 x mc) (bt := lX9_sides_21 x mr) (fun i s t => s.2 = o32 i ∧ t.2 = o32 i ∧ s.1 = t.1) (fun e g => e.1 = g.1 ∧ RLx e.2 g.2) 16 0 (0, 0) (0, 0) fu fu ⟨rfl, rfl, rfl⟩ (fun i s t _ hi hJ => ?_) (fun s t hJ => ?_) (lt_fu (by omega)) (lt_fu (by omega))
    · obtain ⟨j1, j2, j3⟩ := hJ
      have hi : i < 16 := by omega
      unfold lX8_sides_20 lX9_sides_21
      rw [j1, j2, j3, if_neg (not_16 hi), if_neg (not_16 hi), has_c (WS_4 w) hi, is_s hi (WS_3 w), Option.bind_some]
      cases ai : al i with
      | false =>
        rw [if_pos (show i01 false = 0 from rfl), if_pos (show i01 false = 0 from rfl), o_s]
        exact ⟨_, _, rfl, rfl, rfl, rfl, (Int32.add_zero _).symm⟩
      | true =>
        rw [if_neg (show ¬ i01 true = 0 by decide), if_neg (show ¬ i01 true = 0 by decide), if_pos (o_inb hi (by omega)), sd_c w hi ai, sd_m w hi ai, Option.bind_some, o_s]
        by_cases c : o32 (r i).length = x
        · rw [if_pos c, if_pos c]
          exact ⟨_, _, rfl, rfl, rfl, rfl, rfl⟩
        · rw [if_neg c, if_neg c]
          exact ⟨_, _, rfl, rfl, rfl, rfl, (Int32.add_zero _).symm⟩
    · obtain ⟨j1, j2, j3⟩ := hJ
      unfold lX8_sides_20 lX9_sides_21
      rw [j1, j2, j3, if_pos (by decide), if_pos (by decide)]
      exact ⟨_, _, rfl, rfl, rfl, hh⟩
theorem all_o {mc mr : Mem} (h : RLx mc mr) (x : Int32) : Sm (fX8_all x mc) (fX9_all x mr) := by
  have hh := h
  obtain ⟨⟨r, al, f, q, w⟩, _⟩ := h
  unfold fX8_all fX9_all
  rcases win (l := 0) (h := 5) (by omega) (by omega) x with z | ⟨n, _, n2, n3, n4⟩
  · have ne : ∀ k, k ≤ 5 → ¬ x = o32 k := fun k hk e => by
      rw [e, within_o (by omega) (by omega) (by omega), if_pos (by omega)] at z
      exact absurd z (by decide)
    rw [if_pos (show fX9_within x 0 5 = 0 from z), if_neg (show ¬ x = 0 from ne 0 (by omega)), if_neg (show ¬ x = 1 from ne 1 (by omega)), if_neg (show ¬ x = 2 from ne 2 (by omega)), if_neg (show ¬ x = 3 from ne 3 (by omega)), if_neg (show ¬ x = 4 from ne 4 (by omega)), if_neg (show ¬ x = 5 from ne 5 (by omega))]
    exact err1 hh
  · have z : ¬ fX9_within x 0 5 = 0 := by rw [show fX9_within x 0 5 = 1 from n4]; exact one0
    rw [if_neg z]
    subst n3
    have sum : ∀ n, n < 2 → ∃ v, fX0_together_16 0 (cw 0 (4 + n)) mc = some v ∧ lp (lX9_all_20 (o32 n) mr) fu (0, 0) = some (v, mr) := fun n hn => by
      have nle : ¬ (2 : Int32) ≤ o32 n := by rw [show (2 : Int32) = o32 2 from rfl, o_le (by omega) (by omega)]; omega
      have key := lp_two (bs := lX0_together_16_4 0 (cw 0 (4 + n)) mc) (bt := lX9_all_20 (o32 n) mr) (fun i s t => s.2 = o32 i ∧ t.2 = o32 i ∧ s.1 = t.1) (fun e g => g = (e, mr)) 16 0 (0, 0) (0, 0) fu fu ⟨rfl, rfl, rfl⟩ (fun i s t _ hi hJ => ?_) (fun s t hJ => ?_) (lt_fu (by omega)) (lt_fu (by omega))
      · obtain ⟨e, g, e1, e2, e3⟩ := key
        exact ⟨e, e1, by rw [e2, e3]⟩
      · obtain ⟨j1, j2, j3⟩ := hJ
        have hi : i < 16 := by omega
        unfold lX0_together_16_4 lX9_all_20
        rw [j1, j2, j3, if_neg (not_16 hi), if_neg (not_16 hi), if_neg (not_16 hi), if_neg nle, has_c (WS_4 w) hi, is_s hi (WS_3 w), Option.bind_some]
        cases ai : al i with
        | false =>
          rw [if_pos (show i01 false = 0 from rfl), if_pos (show i01 false = 0 from rfl), o_s]
          exact ⟨_, _, rfl, rfl, rfl, rfl, (Int32.add_zero _).symm⟩
        | true =>
          have k2 := WS_5 w i hi ai (2 + n) (by omega) (by omega)
          rw [if_neg (show ¬ i01 true = 0 by decide), if_neg (show ¬ i01 true = 0 by decide), if_pos (o_inb hi (by omega)), o_tn (by omega), show (2 : Int32) + o32 n = o32 (2 + n) from o_add 2 n, of_o hi (by omega), Option.bind_some, k2.1, show mc (cw 0 (4 + n)) i = o32 (f i (2 + n)) by rw [show 4 + n = 2 + n + 2 by omega]; exact k2.2.1, o_s]
          exact ⟨_, _, rfl, rfl, rfl, rfl, rfl⟩
      · obtain ⟨j1, j2, j3⟩ := hJ
        unfold lX0_together_16_4 lX9_all_20
        rw [j1, j2, j3, if_pos (show (16 : Int32) ≤ o32 (0 + 16) by decide), if_pos (show (16 : Int32) ≤ o32 (0 + 16) by decide), if_neg nle]
        exact ⟨_, _, rfl, rfl, rfl⟩
    have num : ∀ n, 2 ≤ n → n ≤ 5 → lp (lX9_all_20 (o32 n) mr) fu (0, 0) = some (mr 138 (5 + n), mr) := fun n hn hn5 => by
      have le : (2 : Int32) ≤ o32 n := by rw [show (2 : Int32) = o32 2 from rfl, o_le (by omega) (by omega)]; omega
      refine lp_fwd (body := lX9_all_20 (o32 n) mr) 16 (fun i => (0, o32 i)) fu (fun i hi => ?_) ?_ (lt_fu (by omega))
      · unfold lX9_all_20
        dsimp only
        rw [if_neg (not_16 hi), if_pos le, o_s]
        rfl
      · unfold lX9_all_20
        dsimp only
        rw [if_pos (show (16 : Int32) ≤ o32 16 by decide), if_pos le, show (7 : Int32) + o32 n - 2 = o32 (5 + n) by
          rw [show (7 : Int32) + o32 n = o32 (7 + n) from o_add 7 n, show o32 (7 + n) - 2 = o32 (7 + n - 2) from o_sub (b := 2) (by omega) (by omega), show 7 + n - 2 = 5 + n by omega], if_pos (o_inb (by omega) (by omega)), o_tn (by omega)]
    obtain ⟨s1, s2, s3, _, _, _, _, _, d, _, d1, d2⟩ := WS_7 w
    match n, n2 with
    | 0, _ =>
      obtain ⟨v, v1, v2⟩ := sum 0 (by omega)
      rw [if_pos (show o32 0 = 0 from rfl), v2, show fX0_together_16 0 (cw 0 4) mc = _ from v1]
      exact ⟨_, _, _, rfl, rfl, hh⟩
    | 1, _ =>
      obtain ⟨v, v1, v2⟩ := sum 1 (by omega)
      rw [if_neg (by decide), if_pos (show o32 1 = 1 from rfl), v2, show fX0_together_16 0 (cw 0 5) mc = _ from v1]
      exact ⟨_, _, _, rfl, rfl, hh⟩
    | 2, _ =>
      rw [if_neg (by decide), if_neg (by decide), if_pos (by decide), num 2 (by omega) (by omega), d2, d1]
      exact ⟨_, _, _, rfl, rfl, hh⟩
    | 3, _ =>
      rw [if_neg (by decide), if_neg (by decide), if_neg (by decide), if_pos (by decide), num 3 (by omega) (by omega), s1]
      exact ⟨_, _, _, rfl, rfl, hh⟩
    | 4, _ =>
      rw [if_neg (by decide), if_neg (by decide), if_neg (by decide), if_neg (by decide), if_pos (by decide), num 4 (by omega) (by omega), s2]
      exact ⟨_, _, _, rfl, rfl, hh⟩
    | 5, _ =>
      rw [if_neg (by decide), if_neg (by decide), if_neg (by decide), if_neg (by decide), if_neg (by decide), if_pos (by decide), num 5 (by omega) (by omega), s3]
      exact ⟨_, _, _, rfl, rfl, hh⟩
    | n + 6, h => exact absurd h (by omega)
theorem told_o {mc mr : Mem} (h : RLx mc mr) (x : Int32) : Df (fX8_told x mc) (fX9_told x mr) := by
  unfold fX8_told fX9_told
  rw [wi_eq]
  rcases win (l := 1) (h := 6) (by omega) (by omega) x with z | ⟨n, n1, n2, n3, n4⟩
  · rw [if_pos (show fX9_within x 1 6 = 0 from z), if_pos (show fX9_within x 1 6 = 0 from z)]
    exact Sm_Df (err1 h)
  · have z : ¬ fX9_within x 1 6 = 0 := by rw [show fX9_within x 1 6 = 1 from n4]; exact one0
    rw [if_neg z, if_neg z, n3, if_pos (o_inb (by omega) (by omega)), if_pos (o_inb (by omega) (by omega))]
    exact ⟨_, _, _, _, rfl, rfl, h⟩
/-- what waits, and THE TAPE, changed alike -/
theorem WS_tp {k : Nat} {m m' mr mr' : Mem} {r : Nat → List Nat} {al : Nat → Bool} {f : Nat → Nat → Nat} {q : Nat → List Nat} (h : WS k m (mr 138) r al f q) (e : ∀ o j, rc k (cw k o) → ¬ (o = 1 ∧ (j = 3 ∨ j = 5)) → o ≠ 36 → o ≠ 37 → m' (cw k o) j = m (cw k o) j) (e2 : ∀ j, j ≠ 1 → j ≠ 2 → ¬ (812 ≤ j ∧ j < 896) → mr' 138 j = mr 138 j) (t : TP k m' (mr' 138)) : WS k m' (mr' 138) r al f q := by
  obtain ⟨a1, a2, a3, a4, a5, a6, a7, a8⟩ := h
  refine ⟨a1, a2, RS_w a3 (fun b hb g hg => e2 _ (by omega) (by omega) (by omega)), CS_same a4 (fun c z hc => ?_), FR_same a5 (fun o z h1 h2 => e o z ⟨o, rfl, by omega⟩ (by omega) (by omega) (by omega)) (fun z h1 h2 => e2 z (by omega) (by omega) (by omega)), fun u hu => TR_same hu (a6 u hu) (fun o z ho => e o z ⟨o, rfl, by omega⟩ (by omega) (by omega) (by omega)) (fun z hz => e2 z (by omega) (by omega) (by omega)), SC_same a7 (fun o z ho => e o z ⟨o, rfl, by omega⟩ (by omega) (by omega) (by omega)) (fun z h1 h2 h3 => e2 z h2 h3 (by omega)), t⟩
  rcases hc with hc | hc | ⟨x, hx, hc⟩
  · rw [hc.1]; exact e 2 z ⟨2, rfl, by omega⟩ (by omega) (by omega) (by omega)
  · rw [hc]; exact e 7 z ⟨7, rfl, by omega⟩ (by omega) (by omega) (by omega)
  · rw [hc]; exact e (9 + x) z ⟨9 + x, rfl, by omega⟩ (by omega) (by omega) (by omega)
theorem tell_o {mc mr : Mem} (h : RLx mc mr) (x : Int32) : Sm (fX8_tell x mc) (fX9_tell x mr) := by
  have hh := h
  obtain ⟨⟨r, al, f, q, w⟩, _⟩ := h
  obtain ⟨t1, t2, ⟨n, n1, n2, n3⟩, t4⟩ := WS_8 w
  unfold fX8_tell fX9_tell
  rw [n2, n3]
  by_cases c : n = 24
  · rw [if_neg (by rw [show (24 : Int32) = o32 24 from rfl, o_lt (by omega) (by omega)]; omega), if_pos (by rw [c]; rfl)]
    exact err4 hh
  · have e5 : ∀ v, mput mc (cw 0 37) n v (cw 0 1) 5 = o32 n := fun v => by rw [mput_c _ _ _ (cw_ne (by omega))]; exact n3
    have e2 : ∀ v, mput mr 138 (872 + n) v 138 2 = o32 n := fun v => by rw [mput_get, if_neg (by omega)]; exact n2
    have ne24 : ¬ o32 n = 24 := by rw [show (24 : Int32) = o32 24 from rfl, o_eq (by omega) (by omega)]; omega
    have lt24 : o32 n < 24 := by rw [show (24 : Int32) = o32 24 from rfl, o_lt (by omega) (by omega)]; omega
    rw [if_pos lt24, if_neg ne24, if_pos (o_inb (show n < 24 by omega) (by omega)), show (872 : Int32) + o32 n = o32 (872 + n) from o_add 872 n, if_pos (o_inb (by omega) (by omega)), o_tn (by omega), o_tn (by omega), e5, e2, mput_at, mput_at, o_s]
    refine ⟨_, _, _, rfl, rfl, RL_k hh ⟨r, al, f, q, WS_tp w (fun o j ho h1 h2 h3 => ?_) (fun j h1 h2 h3 => ?_) ⟨?_, fun i hi => ?_, ⟨n + 1, by omega, ?_, ?_⟩, fun i hi => ?_⟩⟩ (CK_CF (CF_tr (CF_put (by omega) (by omega)) (CF_put (by omega) (by omega)))) (MK_MF (MF_tr (MF_put (by omega)) (MF_put (by omega))))⟩
    · rw [mput_get, if_neg (fun z => h1 ⟨cw_inj z.1, .inr z.2⟩), mput_c _ _ _ (cw_ne h3)]
    · rw [mput_get, if_neg (by omega), mput_get, if_neg (by omega)]
    · rw [mput_get, if_neg (by omega), mput_get, if_neg (by omega), mput_j _ _ _ _ (by omega), mput_c _ _ _ (cw_ne (by omega))]
      exact t1
    · rw [mput_get, if_neg (by omega), mput_get, if_neg (by omega), mput_c _ _ _ (cw_ne (by omega)), mput_c _ _ _ (cw_ne (by omega))]
      exact t2 i hi
    · rw [mput_at]
    · rw [mput_at]
    · rw [mput_get, if_neg (by omega), mput_c _ _ _ (cw_ne (by omega)), mput_get, mput_get]
      by_cases e : i = n
      · rw [if_pos ⟨rfl, by omega⟩, if_pos ⟨rfl, e⟩]
      · rw [if_neg (by omega), if_neg (fun z => e z.2)]
        exact t4 i hi

/-! ACTS ON ONE BUBBLE -/
def cnt (al : Nat → Bool) (i : Nat) : Nat := ((List.range i).map (fun b => if al b then 1 else 0)).sum
theorem cnt_s (al : Nat → Bool) (i : Nat) : cnt al (i + 1) = cnt al i + (if al i then 1 else 0) := by
  unfold cnt
  rw [List.range_succ, List.map_append, List.sum_append]
  rfl
theorem cnt_le (al : Nat → Bool) : ∀ i, cnt al i ≤ i
  | 0 => Nat.le_refl _
  | i + 1 => by
    have := cnt_le al i
    rw [cnt_s]
    split <;> omega
theorem many_s {mr : Mem} {r : Nat → List Nat} {al : Nat → Bool} (h : RS mr r al) : fX9_many mr = some (o32 (cnt al 16)) := by
  unfold fX9_many
  refine lp_fwd (body := lX9_many_4 mr) 16 (fun i => (o32 (cnt al i), o32 i)) fu (fun i hi => ?_) ?_ (lt_fu (by omega))
  · unfold lX9_many_4
    dsimp only
    rw [if_neg (not_16 hi), show fX9_of (o32 i) 0 mr = _ from of_o (f := 0) hi (by omega), Option.bind_some, show mr 138 (12 + 50 * i + 0) = _ from (h i hi).1, cnt_s, o_s]
    cases al i with
    | true => rw [if_pos rfl, if_pos rfl, o_s]
    | false =>
      rw [if_neg (by decide), if_neg (by decide)]
      show some (Sum.inl (o32 (cnt al i) + o32 0, _)) = _
      rw [o_add]
  · unfold lX9_many_4
    rfl
theorem howMany_s {k : Nat} {mc : Mem} {r : Nat → List Nat} {al : Nat → Bool} (h : CS k mc r al) : fX0_howMany k mc = o32 (cnt al 16) := by
  obtain ⟨⟨n, h1, h2, h3⟩, _⟩ := h
  unfold fX0_howMany
  rw [h2, bitCount_o h1, pc_of h3]
  rfl
theorem many_R {k : Nat} {m mr : Mem} (h : WR k m (mr 138)) : ∃ n, n ≤ 16 ∧ fX0_howMany k m = o32 n ∧ fX9_many mr = some (o32 n) := by
  obtain ⟨r, al, f, q, w⟩ := h
  exact ⟨_, cnt_le al 16, howMany_s (WS_4 w), many_s (WS_3 w)⟩
theorem vanish_o {mc mr : Mem} (h : RLx mc mr) (x : Int32) : Sm (fX8_vanish x mc) (fX9_vanish x mr) := by
  have hh := h
  obtain ⟨⟨r, al, f, q, w⟩, _⟩ := h
  have G := WS_1 w
  unfold fX8_vanish fX9_vanish bX9_vanish_32
  rcases isb w x with ⟨a1, a2⟩ | ⟨a, a1, a2, a3, a4, a5⟩
  · rw [if_pos a1, a2, Option.bind_some, if_pos rfl]
    exact err1 hh
  · have la := (CS_g (WS_4 w) a1 a3).1
    rw [a4, a5, if_neg one0, Option.bind_some, if_neg one0, a2, canVanish_c (WS_4 w) G a1 a3, sd_m w a1 a3, Option.bind_some, Option.bind_some]
    by_cases c3 : (r a).length = 3
    · have ie : o32 (r a).length = 3 := by rw [c3]; rfl
      rw [if_pos ie, decide_eq_true c3, Bool.true_and, canVanish_s a1 (WS_3 w) G a3, Option.bind_some]
      cases hv : mayVan r a with
      | false =>
        rw [if_pos (show i01 false = 0 from rfl), if_pos (show i01 false = 0 from rfl)]
        exact err3 hh
      | true =>
        obtain ⟨m', mr', t1, t2, t3, t4, t5, t6⟩ := lose_R w a1 a3 c3
        rw [if_neg (show ¬ i01 true = 0 by decide), if_neg (show ¬ i01 true = 0 by decide), t1, t2, Option.bind_some, Option.bind_some, howMany_s (WS_4 t3), many_s (WS_3 t3), Option.bind_some]
        exact ⟨_, _, _, rfl, rfl, RL_RW hh ⟨⟨_, _, _, _, t3⟩, t4, t5, t6⟩⟩
    · have ie : ¬ o32 (r a).length = 3 := by rw [show (3 : Int32) = o32 3 from rfl, o_eq (by omega) (by omega)]; exact c3
      rw [if_neg ie, decide_eq_false c3, Bool.false_and, if_pos (show i01 false = 0 from rfl)]
      exact err3 hh
theorem ring_o {mc mr : Mem} (h : RLx mc mr) (x y : Int32) : Sm (fX8_ring x y mc) (fX9_ring x y mr) := by
  have hh := h
  obtain ⟨⟨r, al, f, q, w⟩, _⟩ := h
  unfold fX8_ring fX9_ring bX8_ring_40
  rcases isb w x with ⟨a1, a2⟩ | ⟨a, a1, a2, a3, a4, a5⟩
  · rw [if_pos a1, a2, Option.bind_some, if_pos rfl]
    exact err1 hh
  · have ga := CS_g (WS_4 w) a1 a3
    have Ra := ((WS_3 w) a a1).2 a3
    have la := ga.1
    rw [a4, a5, if_neg one0, Option.bind_some, if_neg one0, a2, if_pos (o_inb a1 (by omega)), sd_c w a1 a3, sd_m w a1 a3, Option.bind_some]
    by_cases c : ∃ n, n < (r a).length ∧ y = o32 n
    · obtain ⟨n, n1, n2⟩ := c
      subst n2
      have wi : ¬ fX9_within (o32 n) 0 (o32 (r a).length - 1) = 0 := by
        rw [show o32 (r a).length - 1 = o32 ((r a).length - 1) from o_sub (b := 1) (by omega) (by omega), show fX9_within (o32 n) 0 (o32 ((r a).length - 1)) = _ from within_o (l := 0) (by omega) (by omega) (by omega), if_pos (by omega)]
        decide
      rw [if_neg (not_lt0 (by omega)), if_pos (by rw [o_lt (by omega) (by omega)]; exact n1), if_neg wi, toldAt_c a1 ga (by omega) (by omega), leastIn_s a1 Ra, Option.bind_some, Option.bind_some, told_m2 a1 Ra (by omega) (by omega), Option.bind_some]
      exact ⟨_, _, _, rfl, rfl, hh⟩
    · have wi : fX9_within y 0 (o32 (r a).length - 1) = 0 := by
        by_cases l0 : (r a).length = 0
        · rw [l0]
          unfold fX9_within
          by_cases y0 : y < 0
          · rw [if_pos y0]
          · rw [if_neg y0, if_pos]
            rw [Int32.lt_iff_toInt_lt] at y0 ⊢
            have e0 : (0 : Int32).toInt = 0 := by decide
            have e1 : (o32 0 - 1 : Int32).toInt = -1 := by decide
            omega
        · rw [show o32 (r a).length - 1 = o32 ((r a).length - 1) from o_sub (b := 1) (by omega) (by omega)]
          rcases win (l := 0) (h := (r a).length - 1) (by omega) (by omega) y with z | ⟨n, _, n2, n3, _⟩
          · exact z
          · exact absurd ⟨n, by omega, n3⟩ c
      rw [if_pos wi]
      by_cases y0 : y < 0
      · rw [if_pos y0]
        exact err2 hh
      · rw [if_neg y0, if_neg]
        · exact err2 hh
        · intro z
          refine c ⟨y.toInt.toNat, ?_, ?_⟩
          · rw [Int32.lt_iff_toInt_lt] at z y0
            rw [o_ti (by omega)] at z
            have e0 : (0 : Int32).toInt = 0 := by decide
            omega
          · rw [Int32.lt_iff_toInt_lt] at z y0
            rw [o_ti (by omega)] at z
            have e0 : (0 : Int32).toInt = 0 := by decide
            exact i_eq (by omega) (by omega)
theorem bubbleIs_o {mc mr : Mem} (h : RLx mc mr) (x y : Int32) : Sm (fX8_bubbleIs x y mc) (fX9_bubbleIs x y mr) := by
  have hh := h
  obtain ⟨⟨r, al, f, q, w⟩, _⟩ := h
  unfold fX8_bubbleIs fX9_bubbleIs bX9_bubbleIs_18
  rcases isb w x with ⟨a1, a2⟩ | ⟨a, a1, a2, a3, a4, a5⟩
  · rw [if_pos a1, a2, Option.bind_some, if_pos rfl]
    exact err1 hh
  · have ga := CS_g (WS_4 w) a1 a3
    have Ra := ((WS_3 w) a a1).2 a3
    have ia := o_inb a1 (show a < 2147483648 by omega)
    have F := fun j h1 h2 => WS_5 w a a1 a3 j h1 h2
    have rd : ∀ j, j < 50 → fX9_of (o32 a) (o32 j) mr = some (mr 138 (12 + 50 * a + j)) := fun j hj => of_o a1 hj
    rw [a4, a5, if_neg one0, Option.bind_some, if_neg one0, a2]
    rcases win (l := 0) (h := 8) (by omega) (by omega) y with z | ⟨n, _, n2, n3, n4⟩
    · have ne : ∀ k, k ≤ 8 → ¬ y = o32 k := fun k hk e => by
        rw [e, within_o (by omega) (by omega) (by omega), if_pos (by omega)] at z
        exact absurd z (by decide)
      rw [if_pos (show fX9_within y 0 8 = 0 from z), if_neg (show ¬ y = 0 from ne 0 (by omega)), if_neg (show ¬ y = 1 from ne 1 (by omega)), if_neg (show ¬ y = 2 from ne 2 (by omega)), if_neg (show ¬ y = 3 from ne 3 (by omega)), if_neg (show ¬ y = 4 from ne 4 (by omega)), if_neg (show ¬ y = 5 from ne 5 (by omega)), if_neg (show ¬ y = 6 from ne 6 (by omega)), if_neg (show ¬ y = 7 from ne 7 (by omega)), if_neg (show ¬ y = 8 from ne 8 (by omega))]
      exact err1 hh
    · have z : ¬ fX9_within y 0 8 = 0 := by rw [show fX9_within y 0 8 = 1 from n4]; exact one0
      rw [if_neg z]
      subst n3
      match n, n2 with
      | 0, _ =>
        have e : fX9_of (o32 a) (1 + o32 0) mr = some (o32 (f a 1)) := by rw [← (F 1 (by omega) (by omega)).1]; exact rd 1 (by omega)
        have c : mc (cw 0 3) (o32 a).toNatClampNeg = o32 (f a 1) := fd_c w a1 a3 1 (by omega) (by omega)
        rw [if_pos (by decide), if_pos ia, c, if_neg (by decide), if_neg (by decide), if_neg (by decide), if_neg (by decide), e]
        exact ⟨_, _, _, rfl, rfl, hh⟩
      | 1, _ =>
        have e : fX9_of (o32 a) (1 + o32 1) mr = some (o32 (f a 2)) := by rw [← (F 2 (by omega) (by omega)).1]; exact rd 2 (by omega)
        have c : mc (cw 0 4) (o32 a).toNatClampNeg = o32 (f a 2) := fd_c w a1 a3 2 (by omega) (by omega)
        rw [if_neg (by decide), if_pos (by decide), if_pos ia, c, if_neg (by decide), if_neg (by decide), if_neg (by decide), if_neg (by decide), e]
        exact ⟨_, _, _, rfl, rfl, hh⟩
      | 2, _ =>
        have e : fX9_of (o32 a) (1 + o32 2) mr = some (o32 (f a 3)) := by rw [← (F 3 (by omega) (by omega)).1]; exact rd 3 (by omega)
        have c : mc (cw 0 5) (o32 a).toNatClampNeg = o32 (f a 3) := fd_c w a1 a3 3 (by omega) (by omega)
        rw [if_neg (by decide), if_neg (by decide), if_pos (by decide), if_pos ia, c, if_neg (by decide), if_neg (by decide), if_neg (by decide), if_neg (by decide), e]
        exact ⟨_, _, _, rfl, rfl, hh⟩
      | 3, _ =>
        have e : fX9_of (o32 a) (1 + o32 3) mr = some (o32 (f a 4)) := by rw [← (F 4 (by omega) (by omega)).1]; exact rd 4 (by omega)
        have c : mc (cw 0 6) (o32 a).toNatClampNeg = o32 (f a 4) := fd_c w a1 a3 4 (by omega) (by omega)
        rw [if_neg (by decide), if_neg (by decide), if_neg (by decide), if_pos (by decide), if_pos ia, c, if_neg (by decide), if_neg (by decide), if_neg (by decide), if_neg (by decide), e]
        exact ⟨_, _, _, rfl, rfl, hh⟩
      | 4, _ =>
        have e : fX9_of (o32 a) (1 + o32 4) mr = some (o32 (r a).length) := by rw [← Ra.2.1]; exact rd 5 (by omega)
        rw [if_neg (by decide), if_neg (by decide), if_neg (by decide), if_neg (by decide), if_pos (by decide), if_pos ia, sd_c w a1 a3, if_neg (by decide), if_neg (by decide), if_neg (by decide), if_neg (by decide), e]
        exact ⟨_, _, _, rfl, rfl, hh⟩
      | 5, _ =>
        rw [if_neg (by decide), if_neg (by decide), if_neg (by decide), if_neg (by decide), if_neg (by decide), if_pos (by decide), if_pos (by decide), glasses_c a1 ga, glasses_m a1 Ra]
        exact ⟨_, _, _, rfl, rfl, hh⟩
      | 6, _ =>
        rw [if_neg (by decide), if_neg (by decide), if_neg (by decide), if_neg (by decide), if_neg (by decide), if_neg (by decide), if_pos (by decide), if_neg (by decide), if_pos (by decide), dry_c w a1 a3, dry_m a1]
        exact ⟨_, _, _, rfl, rfl, hh⟩
      | 7, _ =>
        have c : mc (cw 0 3) (o32 a).toNatClampNeg = o32 (f a 1) := fd_c w a1 a3 1 (by omega) (by omega)
        rw [if_neg (by decide), if_neg (by decide), if_neg (by decide), if_neg (by decide), if_neg (by decide), if_neg (by decide), if_neg (by decide), if_pos (by decide), if_pos ia, c, if_neg (by decide), if_neg (by decide), if_pos (by decide), lets_m a1, (F 1 (by omega) (by omega)).1]
        exact ⟨_, _, _, rfl, rfl, hh⟩
      | 8, _ =>
        obtain ⟨v, m1, mr1, e1, e2, n1, n2⟩ := mark_R w a1 a3
        rw [if_neg (by decide), if_neg (by decide), if_neg (by decide), if_neg (by decide), if_neg (by decide), if_neg (by decide), if_neg (by decide), if_neg (by decide), if_pos (by decide), e1, if_neg (by decide), if_neg (by decide), if_neg (by decide), if_pos (by decide), e2]
        exact ⟨_, _, _, rfl, rfl, RL_k hh ⟨r, al, f, q, WS_NF w n1 n2⟩ (CK_CF (NF_CF n1)) (MK_MF (F146_MF n2))⟩
      | n + 9, h => exact absurd h (by omega)

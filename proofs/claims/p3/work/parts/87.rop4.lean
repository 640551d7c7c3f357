/-! ACTS THAT SET -/
theorem as_up : ∀ kd, kd < 7 → ¬ o32 kd < 0 ∧ fX9_above (o32 kd) = (if kd = 0 then -1 else if kd = 2 then 1 else if kd = 5 then 3 else 0) := by decide +kernel
theorem as_lp {mr : Mem} {x : Int32} {t : Nat} {v e : Int32 × Mem} (ht : t < 7) (hv : bX9_as_49 x (o32 t) mr = some v) (he : bX9_as_49 x (-1) mr = some e) (kd : Nat) (hk : kd < 7) : lp (lX9_as_32 x (o32 t) mr) fu (o32 kd) = some (if underB kd t then v else e) := by
  obtain ⟨z, hz⟩ : ∃ z, fu = z + 10 := ⟨fu - 10, by have := lt_fu (n := 10) (by omega); omega⟩
  rw [hz]
  have hit : lX9_as_32 x (o32 t) mr (o32 t) = some (.inr v) := by
    unfold lX9_as_32
    rw [if_neg (as_up t ht).1, if_pos rfl, hv]
    rfl
  have miss : lX9_as_32 x (o32 t) mr (-1) = some (.inr e) := by
    unfold lX9_as_32
    rw [if_pos (by decide), he]
    rfl
  have st : ∀ k, k < 7 → k ≠ t → lX9_as_32 x (o32 t) mr (o32 k) = some (.inl (fX9_above (o32 k))) := fun k hk hn => by
    unfold lX9_as_32
    rw [if_neg (as_up k hk).1, if_neg (by rw [o_eq (by omega) (by omega)]; exact hn)]
  have L0 : ∀ n, lp (lX9_as_32 x (o32 t) mr) (n + 2) (o32 0) = some (if t = 0 then v else e) := fun n => by
    by_cases h : t = 0
    · rw [if_pos h]
      rw [h] at hit ⊢
      exact lp_e hit
    · rw [if_neg h, lp_i (st 0 (by omega) (fun z => h z.symm)), (as_up 0 (by omega)).2]
      exact lp_e miss
  have L1 : ∀ n k, k < 7 → fX9_above (o32 k) = 0 → lp (lX9_as_32 x (o32 t) mr) (n + 3) (o32 k) = some (if t = k ∨ t = 0 then v else e) := fun n k hk hu => by
    by_cases h : t = k
    · rw [if_pos (.inl h)]
      rw [h] at hit ⊢
      exact lp_e hit
    · rw [lp_i (st k hk (fun z => h z.symm)), hu, show (0 : Int32) = o32 0 from rfl, L0]
      by_cases h0 : t = 0
      · rw [if_pos h0, if_pos (.inr h0)]
      · rw [if_neg h0, if_neg (fun z => by omega)]
  have L2 : ∀ n k j, k < 7 → j < 7 → fX9_above (o32 k) = o32 j → fX9_above (o32 j) = 0 → lp (lX9_as_32 x (o32 t) mr) (n + 4) (o32 k) = some (if t = k ∨ t = j ∨ t = 0 then v else e) := fun n k j hk hj hu hu2 => by
    by_cases h : t = k
    · rw [if_pos (.inl h)]
      rw [h] at hit ⊢
      exact lp_e hit
    · rw [lp_i (st k hk (fun z => h z.symm)), hu, L1 n j hj hu2]
      by_cases h0 : t = j ∨ t = 0
      · rw [if_pos h0, if_pos (.inr h0)]
      · rw [if_neg h0, if_neg (fun z => by omega)]
  have fin : ∀ (p : Prop) [Decidable p], (p ↔ underB kd t = true) → some (if p then v else e) = some (if underB kd t then v else e) := fun p _ hp => by
    by_cases c : p
    · rw [if_pos c, if_pos (hp.mp c)]
    · rw [if_neg c, if_neg (fun z => c (hp.mpr z))]
  have ub : underB kd t = true ↔ t = kd ∨ t = 0 ∨ (kd = 2 ∧ t = 1) ∨ (kd = 5 ∧ t = 3) := by
    unfold underB
    simp only [Bool.or_eq_true, Bool.and_eq_true, decide_eq_true_eq]
    omega
  match kd, hk with
  | 0, _ => rw [L0]; exact fin _ (by rw [ub]; omega)
  | 1, _ => rw [L1 _ 1 (by omega) (by decide)]; exact fin _ (by rw [ub]; omega)
  | 2, _ => rw [L2 _ 2 1 (by omega) (by omega) (by decide) (by decide)]; exact fin _ (by rw [ub]; omega)
  | 3, _ => rw [L1 _ 3 (by omega) (by decide)]; exact fin _ (by rw [ub]; omega)
  | 4, _ => rw [L1 _ 4 (by omega) (by decide)]; exact fin _ (by rw [ub]; omega)
  | 5, _ => rw [L2 _ 5 3 (by omega) (by omega) (by decide) (by decide)]; exact fin _ (by rw [ub]; omega)
  | 6, _ => rw [L1 _ 6 (by omega) (by decide)]; exact fin _ (by rw [ub]; omega)
theorem isOne_eq (x : Int32) : fX1_isOne x = fX9_within x 0 6 := rfl
theorem as_o {mc mr : Mem} (h : RLx mc mr) (x y : Int32) : Sm (fX8_as x y mc) (fX9_as x y mr) := by
  have hh := h
  obtain ⟨⟨r, al, f, q, w⟩, _⟩ := h
  unfold fX8_as fX9_as bX8_as_21 bX9_as_18
  rw [isOne_eq]
  rcases isb w x with ⟨a1, a2⟩ | ⟨a, a1, a2, a3, a4, a5⟩
  · rw [if_pos a1, a2, Option.bind_some, if_pos rfl]
    exact err1 hh
  · have ia := o_inb a1 (show a < 2147483648 by omega)
    have l1 : f a 1 ≤ 6 := (WS_5 w a a1 a3 1 (by omega) (by omega)).2.2
    rw [a4, a5, if_neg one0, Option.bind_some, if_neg one0, a2]
    rcases win (l := 0) (h := 6) (by omega) (by omega) y with z | ⟨n, _, n2, n3, n4⟩
    · rw [if_pos (show fX9_within y 0 6 = 0 from z), if_pos (show fX9_within y 0 6 = 0 from z)]
      exact err1 hh
    · have z : ¬ fX9_within y 0 6 = 0 := by rw [show fX9_within y 0 6 = 1 from n4]; exact one0
      obtain ⟨v, mc1, mr1, e1, e2, e3⟩ := err5 hh
      have hv : bX9_as_49 (o32 a) (o32 n) mr = some (o32 (f a 2), mr) := by
        unfold bX9_as_49
        rw [if_pos (o_ge0 (by omega)), show fX9_of (o32 a) 2 mr = _ from fd_m w a1 a3 2 (by omega) (by omega)]
        rfl
      have he : bX9_as_49 (o32 a) (-1) mr = some (v, mr1) := by
        unfold bX9_as_49
        rw [if_neg (by decide)]
        exact e2
      rw [if_neg z, if_neg z, n3, if_pos ia, show mc (cw 0 3) (o32 a).toNatClampNeg = _ from fd_c w a1 a3 1 (by omega) (by omega), under_c (by omega) (by omega), show fX9_of (o32 a) 1 mr = _ from fd_m w a1 a3 1 (by omega) (by omega), Option.bind_some, Option.bind_some, as_lp (by omega) hv he _ (by omega)]
      cases underB (f a 1) n with
      | false =>
        rw [if_pos (show i01 false = 0 from rfl)]
        exact ⟨v, mc1, mr1, e1, rfl, e3⟩
      | true =>
        rw [if_neg (show ¬ i01 true = 0 by decide), if_pos ia, show mc (cw 0 4) (o32 a).toNatClampNeg = _ from fd_c w a1 a3 2 (by omega) (by omega)]
        exact ⟨_, _, _, rfl, rfl, hh⟩
theorem set_fld {mc mr : Mem} {r : Nat → List Nat} {al : Nat → Bool} {f : Nat → Nat → Nat} {q : Nat → List Nat} {b j v : Nat} (h : RLx mc mr) (w : WS 0 mc (mr 138) r al f q) (hb : b < 16) (h1 : 1 ≤ j) (h4 : j ≤ 4) (hv : v ≤ lim j) : RLx (mput mc (cw 0 (j + 2)) b (o32 v)) (mput mr 138 (12 + 50 * b + j) (o32 v)) := RL_k h ⟨r, al, _, q, WS_fld w hb h1 h4 hv⟩ (CK_CF (CF_put (by omega) (by omega))) (MK_MF (MF_put (by omega)))
theorem become_o {mc mr : Mem} (h : RLx mc mr) (x y : Int32) : Sm (fX8_become x y mc) (fX9_become x y mr) := by
  have hh := h
  obtain ⟨⟨r, al, f, q, w⟩, _⟩ := h
  unfold fX8_become fX9_become bX8_become_21 bX9_become_35
  rw [isOne_eq]
  rcases isb w x with ⟨a1, a2⟩ | ⟨a, a1, a2, a3, a4, a5⟩
  · rw [if_pos a1, a2, Option.bind_some, if_pos rfl]
    exact err1 hh
  · have ia := o_inb a1 (show a < 2147483648 by omega)
    rw [a4, a5, if_neg one0, Option.bind_some, if_neg one0, a2]
    rcases win (l := 0) (h := 6) (by omega) (by omega) y with z | ⟨n, _, n2, n3, n4⟩
    · rw [if_pos (show fX9_within y 0 6 = 0 from z), if_pos (show fX9_within y 0 6 = 0 from z)]
      exact err1 hh
    · have z : ¬ fX9_within y 0 6 = 0 := by rw [show fX9_within y 0 6 = 1 from n4]; exact one0
      rw [if_neg z, if_neg z, n3, if_pos ia, if_pos ia, show mc (cw 0 3) (o32 a).toNatClampNeg = _ from fd_c w a1 a3 1 (by omega) (by omega), o_tn (by omega), show (12 : Int32) + 50 * o32 a + 1 = o32 (12 + 50 * a + 1) from ad_o a 1, comes_op (by omega), (WS_5 w a a1 a3 1 (by omega) (by omega)).1]
      exact ⟨_, _, _, rfl, rfl, set_fld hh w a1 (by omega) (show 1 ≤ 4 by omega) n2⟩
theorem fill_o {mc mr : Mem} (h : RLx mc mr) (x y u : Int32) : Sm (fX8_fill x y u mc) (fX9_fill x y u mr) := by
  have hh := h
  obtain ⟨⟨r, al, f, q, w⟩, _⟩ := h
  unfold fX8_fill fX9_fill bX8_fill_33 bX9_fill_46 bX8_fill_66 bX8_fill_66a
  rw [wi_eq, wi_eq]
  rcases isb w x with ⟨a1, a2⟩ | ⟨a, a1, a2, a3, a4, a5⟩
  · rw [if_pos a1, a2, Option.bind_some, if_pos rfl]
    exact err1 hh
  · have ia := o_inb a1 (show a < 2147483648 by omega)
    rw [a4, a5, if_neg one0, Option.bind_some, if_neg one0, a2]
    rcases win (l := 0) (h := 1) (by omega) (by omega) y with z | ⟨n, _, n2, n3, n4⟩
    · rw [if_pos (show fX9_within y 0 1 = 0 from z), if_pos (show fX9_within y 0 1 = 0 from z)]
      exact err1 hh
    · have z : ¬ fX9_within y 0 1 = 0 := by rw [show fX9_within y 0 1 = 1 from n4]; exact one0
      rw [if_neg z, if_neg z]
      rcases win (l := 0) (h := 99999) (by omega) (by omega) u with z | ⟨p, _, p2, p3, p4⟩
      · rw [if_pos (show fX9_within u 0 99999 = 0 from z), if_pos (show fX9_within u 0 99999 = 0 from z)]
        exact err1 hh
      · have z : ¬ fX9_within u 0 99999 = 0 := by rw [show fX9_within u 0 99999 = 1 from p4]; exact one0
        rw [if_neg z, if_neg z, n3, p3, if_pos ia, if_pos ia, if_pos ia, if_pos ia, show mc (cw 0 4) (o32 a).toNatClampNeg = _ from fd_c w a1 a3 2 (by omega) (by omega), show mc (cw 0 5) (o32 a).toNatClampNeg = _ from fd_c w a1 a3 3 (by omega) (by omega), o_tn (by omega), show (12 : Int32) + 50 * o32 a + 2 = o32 (12 + 50 * a + 2) from ad_o a 2, o_add, comes_op (by omega)]
        by_cases n0 : n = 0
        · subst n0
          rw [if_pos (by decide), show mr 138 (12 + 50 * a + 2 + 0) = _ from (WS_5 w a a1 a3 2 (by omega) (by omega)).1]
          exact ⟨_, _, _, rfl, rfl, set_fld hh w a1 (by omega) (show 2 ≤ 4 by omega) p2⟩
        · have n1 : n = 1 := by omega
          subst n1
          rw [if_neg (by decide), show mr 138 (12 + 50 * a + 2 + 1) = _ from (WS_5 w a a1 a3 3 (by omega) (by omega)).1]
          exact ⟨_, _, _, rfl, rfl, set_fld hh w a1 (by omega) (show 3 ≤ 4 by omega) p2⟩
theorem seed_o {mc mr : Mem} (h : RLx mc mr) (x : Int32) : Sm (fX8_seed x mc) (fX9_seed x mr) := by
  have hh := h
  obtain ⟨⟨r, al, f, q, w⟩, _⟩ := h
  unfold fX8_seed fX9_seed
  rw [show fX9_comes 3 x mr = _ from comes_op (j := 3) (by omega), Option.bind_some, (WS_7 w).2.2.2.1]
  exact ⟨_, _, _, rfl, rfl, RL_k hh ⟨r, al, f, q, WS_z x w⟩ (CK_CF (CF_put (by omega) (by omega))) (MK_MF (MF_put (by omega)))⟩

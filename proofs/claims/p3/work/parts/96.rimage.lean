/-! IMAGE, RESTORE, STANDS -/
def cpR (m : Mem) (a b n : Nat) : Mem := fun c j => if c = b ∧ j < n then m a j else m c j
theorem copy_m {m : Mem} {a b : Nat} (hab : a ≠ b) : fX9_copy_1082_1082 a b m = some (cpR m a b 1082) := by
  unfold fX9_copy_1082_1082
  have e0 : cpR m a b 0 = m := by
    funext c j
    unfold cpR
    rw [if_neg (by omega)]
  have st := lp_fwd (body := lX9_copy_1082_1082_2 a b) (e := cpR m a b 1082) 1082 (fun i => (o32 i, cpR m a b i)) fu (fun i hi => ?_) ?_ (lt_fu (by omega))
  · rw [e0] at st
    exact st
  · unfold lX9_copy_1082_1082_2
    dsimp only
    rw [if_neg (by rw [show (1082 : Int32) = o32 1082 from rfl, o_le (by omega) (by omega)]; omega), if_pos (o_inb hi (by omega)), if_pos (o_inb hi (by omega)), o_tn (by omega), o_s]
    congr 3
    funext c j
    rw [mput_get]
    unfold cpR
    by_cases e : c = b ∧ j = i
    · rw [if_pos e, if_neg (fun z => hab z.1), if_pos ⟨e.1, by omega⟩, e.2]
    · rw [if_neg e]
      by_cases e2 : c = b ∧ j < i
      · rw [if_pos e2, if_pos ⟨e2.1, by omega⟩]
      · rw [if_neg e2, if_neg (by omega)]
  · unfold lX9_copy_1082_1082_2
    dsimp only
    rw [if_pos (by rw [show (1082 : Int32) = o32 1082 from rfl, o_le (by omega) (by omega)]; omega)]
theorem WS_row {k : Nat} {m : Mem} {w w' : Nat → Int32} {r : Nat → List Nat} {al : Nat → Bool} {f : Nat → Nat → Nat} {q : Nat → List Nat} (h : WS k m w r al f q) (e : ∀ j, j < 1082 → w' j = w j) : WS k m w' r al f q := by
  obtain ⟨a1, a2, a3, a4, a5, a6, a7, a8⟩ := h
  refine ⟨a1, a2, RS_w a3 (fun b hb g hg => e _ (by omega)), a4, FR_same a5 (fun _ _ _ _ => rfl) (fun j h1 h2 => e j (by omega)), fun u hu => ?_, SC_same a7 (fun _ _ _ => rfl) (fun j h1 h2 h3 => e j (by omega)), ?_⟩
  · obtain ⟨h1, h2, h3, h4, h5, h6⟩ := a6 u hu
    refine ⟨h1, h2, h3, by rw [e _ (by omega)]; exact h4, h5, fun i hi => ?_⟩
    rw [e _ (by omega)]
    exact h6 i hi
  · obtain ⟨h1, h2, h3, h4⟩ := a8
    refine ⟨?_, fun i hi => ?_, ?_, fun i hi => ?_⟩
    · rw [e 1 (by omega)]; exact h1
    · rw [e _ (by omega)]; exact h2 i hi
    · rw [e 2 (by omega)]; exact h3
    · rw [e _ (by omega)]; exact h4 i hi
theorem WR_far {k : Nat} {m m' : Mem} {w w' : Nat → Int32} (h : WR k m w) (e1 : ∀ o j, 1 ≤ o → o ≤ 39 → m' (cw k o) j = m (cw k o) j) (e2 : ∀ j, j < 1082 → w' j = w j) : WR k m' w' := by
  obtain ⟨r, al, f, q, h⟩ := h
  refine ⟨r, al, f, q, WS_row (WS_same h (fun c j hc => ?_) (fun _ => rfl)) e2⟩
  obtain ⟨o, e, ho⟩ := hc
  rw [e]
  exact e1 o j (by omega) (by omega)
theorem image_o {mc mr : Mem} (h : RLx mc mr) : Sm (fX8_image mc) (fX9_image mr) := by
  obtain ⟨⟨r, al, f, q, w⟩, h2, h3, h4, h5, h6⟩ := h
  obtain ⟨m', e, W, C⟩ := copy_R (k := 1) (k2 := 0) (by omega) w
  unfold fX8_image fX9_image
  have c8 : m' 0 8 = mc 0 8 := C 0 8 (fun o _ _ => by unfold cw; omega)
  have r3 : cpR mr 138 139 1082 137 3 = mr 137 3 := if_neg (by omega)
  rw [e, copy_m (by omega), Option.bind_some, Option.bind_some, mput_at, mput_at, c8, r3, h2]
  have e1 : ∀ c j, ¬ (c = 0 ∧ j = 8) → (∀ o, 1 ≤ o → o ≤ 39 → c ≠ cw 1 o) → mput m' 0 8 (mr 137 3 + 1) c j = mc c j := fun c j h1 h2 => by
    rw [mput_get, if_neg h1]
    exact C c j h2
  have e2 : ∀ c j, c ≠ 139 → ¬ (c = 137 ∧ j = 3) → mput (cpR mr 138 139 1082) 137 3 (mr 137 3 + 1) c j = mr c j := fun c j h1 h2 => by
    rw [mput_get, if_neg h2]
    exact if_neg (fun z => h1 z.1)
  refine ⟨_, _, _, rfl, rfl, ?_, by rw [mput_at, mput_at], fun _ => ?_, fun s hs => ?_, ?_, ?_⟩
  · refine WR_far ⟨r, al, f, q, w⟩ (fun o j o1 o2 => e1 _ _ (fun z => ?_) (fun o' a b => ?_)) (fun j _ => e2 138 j (by omega) (by omega))
    · have := z.1; unfold cw at this; omega
    · unfold cw; omega
  · refine WR_far ⟨r, al, f, q, W⟩ (fun o j o1 o2 => ?_) (fun j hj => ?_)
    · rw [mput_get, if_neg (fun z => by have := z.1; unfold cw at this; omega)]
    · rw [mput_get, if_neg (by omega)]
      exact if_pos ⟨rfl, hj⟩
  · obtain ⟨q1, q2, q3⟩ := h4 s hs
    rw [e1 129 s (by omega) (fun o a b => by unfold cw; omega), e1 130 s (by omega) (fun o a b => by unfold cw; omega), e2 151 s (by omega) (by omega), e2 152 s (by omega) (by omega)]
    refine ⟨q1, q2, fun i hi => ?_⟩
    rw [e1 (132 + s) i (by omega) (fun o a b => by unfold cw; omega), e2 153 _ (by omega) (by omega)]
    exact q3 i hi
  · rw [e1 125 1 (by omega) (fun o a b => by unfold cw; omega)]; exact h5
  · rw [e2 137 19 (by omega) (by omega)]; exact h6
theorem restore_o {mc mr : Mem} (h : RLx mc mr) : Sm (fX8_restore mc) (fX9_restore mr) := by
  have hh := h
  obtain ⟨w0, h2, h3, h4, h5, h6⟩ := h
  unfold fX8_restore fX9_restore
  rw [← h2]
  by_cases z : mc 0 8 = 0
  · rw [if_pos z, if_pos z]
    exact err2 hh
  · obtain ⟨r, al, f, q, w⟩ := h3 z
    obtain ⟨m', e, W, C⟩ := copy_R (k := 0) (k2 := 1) (by omega) w
    have W2 : WS 0 m' (cpR mr 139 138 1082 138) r al f q := WS_row W (fun j hj => if_pos ⟨rfl, hj⟩)
    rw [if_neg z, if_neg z, e, copy_m (by omega), Option.bind_some, Option.bind_some, howMany_s (WS_4 W2), many_s (WS_3 W2), Option.bind_some]
    exact ⟨_, _, _, rfl, rfl, RL_k hh ⟨r, al, f, q, W2⟩ (CK_CF C) (fun c j hc => if_neg (by omega))⟩
theorem stands_o {mc mr : Mem} (h : RLx mc mr) (x y : Int32) : Sm (fX8_stands x y mc) (fX9_stands x y mr) := by
  have hh := h
  obtain ⟨⟨r, al, f, q, w⟩, h2, h3, h4, h5, h6⟩ := h
  have S := WS_7 w
  unfold fX8_stands fX9_stands bX8_stands_20 bX9_stands_20
  rw [wi_eq, wi_eq]
  rcases win (l := 0) (h := 16) (by omega) (by omega) x with z | ⟨K, _, k2, k3, k4⟩
  · rw [if_pos (show fX9_within x 0 16 = 0 from z), if_pos (show fX9_within x 0 16 = 0 from z)]
    exact err1 hh
  have z : ¬ fX9_within x 0 16 = 0 := by rw [show fX9_within x 0 16 = 1 from k4]; exact one0
  rw [if_neg z, if_neg z]
  rcases win (l := 1) (h := 60) (by omega) (by omega) y with z | ⟨n, n1, n2, n3, n4⟩
  · rw [if_pos (show fX9_within y 1 60 = 0 from z), if_pos (show fX9_within y 1 60 = 0 from z)]
    exact err1 hh
  have z : ¬ fX9_within y 1 60 = 0 := by rw [show fX9_within y 1 60 = 1 from n4]; exact one0
  obtain ⟨t, t1, t2, t3⟩ := S.2.2.2.2.2.2.2.1
  rw [if_neg z, if_neg z, t2, t3, n3, k3, o_add]
  by_cases c : t + n ≤ 9999
  · obtain ⟨m', e, W, C⟩ := copy_R (k := 2) (k2 := 0) (by omega) w
    have W2 : WS 2 m' (cpR mr 138 140 1082 138) r al f q := WS_row W (fun j hj => if_neg (by omega))
    rw [if_pos (by rw [show (9999 : Int32) = o32 9999 from rfl, o_le (by omega) (by omega)]; exact c), if_pos (by rw [show (9999 : Int32) = o32 9999 from rfl, o_le (by omega) (by omega)]; exact c), e, copy_m (by omega), Option.bind_some, Option.bind_some]
    have M0 : ∀ c j, c ≠ 140 → cpR mr 138 140 1082 c j = mr c j := fun c j hc => if_neg (fun z => hc z.1)
    have A0 : ∀ j, j < 1082 → cpR mr 138 140 1082 140 j = mr 138 j := fun j hj => if_pos ⟨rfl, hj⟩
    have t0 : cpR mr 138 140 1082 138 0 = o32 (t + 0) := by rw [M0 _ _ (by omega)]; exact t2
    generalize cpR mr 138 140 1082 = m0 at *
    apply Sm_of
    -- what stands behind, as it was
    have back : ∀ m1 mr1, CF 2 mc m1 → MF m0 mr1 → RLx m1 (cpR mr1 140 138 1082) := fun m1 mr1 c1 c2 => by
      refine RL_k hh (WR_far ⟨r, al, f, q, w⟩ (fun o j o1 o2 => c1 _ _ (fun o' a b => by unfold cw; omega)) (fun j hj => ?_)) (CK_CF2 c1) (fun c j hc => ?_)
      · show (if 138 = 138 ∧ j < 1082 then mr1 140 j else mr1 138 j) = _
        rw [if_pos ⟨rfl, hj⟩, c2 140 j (by omega) (by omega) (by omega) (by omega) (by omega)]
        exact A0 j hj
      · show (if c = 138 ∧ j < 1082 then mr1 140 j else mr1 c j) = _
        rw [if_neg (by omega), c2 c j (by omega) (by omega) (by omega) (by omega) (by omega)]
        exact M0 c j (by omega)
    have fin97 : ∀ (i : Nat) (m1 mr1 : Mem), CF 2 mc m1 → MF m0 mr1 → WR 2 m1 (mr1 138) → ∀ N, fX9_many mr1 = some (o32 N) → N ≤ 16 → N ≤ K → ∃ g, bX9_stands_84 (o32 K) (o32 i) mr1 = some g ∧ o32 i = g.1 ∧ RLx m1 g.2 := fun i m1 mr1 c1 c2 w1 N hN N16 hK => by
      unfold bX9_stands_84 bX9_stands_97
      rw [hN, Option.bind_some, if_neg (by rw [o_lt (by omega) (by omega)]; omega), copy_m (by omega), Option.bind_some, if_neg one0]
      exact ⟨_, rfl, rfl, back m1 mr1 c1 c2⟩
    have go : ∀ d i u v m1 mr1, i + d = n → d + 3 < u → d + 3 < v → CF 2 mc m1 → MF m0 mr1 → WR 2 m1 (mr1 138) → mr1 138 0 = o32 (t + i) → ∃ e g, lp (lX8_stands_60 (o32 K) (o32 n)) u (o32 i, m1) = some e ∧ lp (lX9_stands_61 (o32 K) (o32 n)) v (o32 i, mr1) = some g ∧ e.1 = g.1 ∧ RLx e.2 g.2 := by
      intro d
      induction d with
      | zero =>
        intro i u v m1 mr1 hi hu hv c1 c2 w1 ti
        obtain ⟨u, rfl⟩ : ∃ z, u = z + 2 := ⟨u - 2, by omega⟩
        obtain ⟨v, rfl⟩ : ∃ z, v = z + 1 := ⟨v - 1, by omega⟩
        obtain ⟨N, N16, k1, k2'⟩ := many_R w1
        have ni : o32 n ≤ o32 i := by rw [o_le (by omega) (by omega)]; omega
        by_cases hK : N ≤ K
        · obtain ⟨g, g1, g2, g3⟩ := fin97 i m1 mr1 c1 c2 w1 N k2' N16 hK
          refine ⟨(o32 i, m1), g, lp_e ?_, lp_e ?_, g2, g3⟩
          · unfold lX8_stands_60
            dsimp only
            rw [if_neg (by rw [o_lt (by omega) (by omega)]; omega), k1, if_neg (by rw [o_lt (by omega) (by omega)]; omega)]
          · unfold lX9_stands_61
            dsimp only
            rw [if_pos ni, g1]
            rfl
        · have R2 := back m1 mr1 c1 c2
          obtain ⟨v1, mm, mmr, q1, q2, q3⟩ := err2 R2
          have x1 : lX8_stands_60 (o32 K) (o32 n) (o32 i, m1) = some (.inl (o32 (i + 1), m1)) := by
            unfold lX8_stands_60
            dsimp only
            rw [if_neg (by rw [o_lt (by omega) (by omega)]; omega), k1, if_pos (by rw [o_lt (by omega) (by omega)]; omega), if_pos ni, o_s]
          have x2 : lX8_stands_60 (o32 K) (o32 n) (o32 (i + 1), m1) = some (.inr (v1, mm)) := by
            unfold lX8_stands_60
            dsimp only
            rw [if_pos (by rw [o_lt (by omega) (by omega)]; omega)]
            cases z1 : fX8_no 2 m1 with
            | none => rw [z1] at q1; cases q1
            | some p =>
              rw [z1] at q1
              have q1 : (p.1, p.2) = (v1, mm) := Option.some.inj q1
              show some (Sum.inr (p.1, p.2)) = _
              rw [q1]
          refine ⟨(v1, mm), (v1, mmr), (lp_i x1).trans (lp_e x2), lp_e ?_, rfl, q3⟩
          unfold lX9_stands_61
          dsimp only
          rw [if_pos ni]
          unfold bX9_stands_84 bX9_stands_97
          rw [k2', Option.bind_some, if_pos (by rw [o_lt (by omega) (by omega)]; omega), copy_m (by omega), Option.bind_some, if_pos rfl, q2]
          rfl
      | succ d ih =>
        intro i u v m1 mr1 hi hu hv c1 c2 w1 ti
        obtain ⟨u, rfl⟩ : ∃ z, u = z + 1 := ⟨u - 1, by omega⟩
        obtain ⟨v, rfl⟩ : ∃ z, v = z + 1 := ⟨v - 1, by omega⟩
        obtain ⟨N, N16, k1, k2'⟩ := many_R w1
        have ni : ¬ o32 n ≤ o32 i := by rw [o_le (by omega) (by omega)]; omega
        by_cases hK : N ≤ K
        · obtain ⟨g, g1, g2, g3⟩ := fin97 i m1 mr1 c1 c2 w1 N k2' N16 hK
          refine ⟨(o32 i, m1), g, lp_e ?_, lp_e ?_, g2, g3⟩
          · unfold lX8_stands_60
            dsimp only
            rw [if_neg (by rw [o_lt (by omega) (by omega)]; omega), k1, if_neg (by rw [o_lt (by omega) (by omega)]; omega)]
          · unfold lX9_stands_61
            dsimp only
            rw [if_neg ni, k2', Option.bind_some, if_pos (by rw [o_le (by omega) (by omega)]; omega), g1]
            rfl
        · obtain ⟨m2, mr2, g1, g2, g3, g4, g5, g6⟩ := goOn_R w1 (by omega) ti
          have x1 : lX8_stands_60 (o32 K) (o32 n) (o32 i, m1) = some (.inl (o32 (i + 1), m2)) := by
            unfold lX8_stands_60
            dsimp only
            rw [if_neg (by rw [o_lt (by omega) (by omega)]; omega), k1, if_pos (by rw [o_lt (by omega) (by omega)]; omega), if_neg ni, g1, Option.bind_some, o_s]
          have x2 : lX9_stands_61 (o32 K) (o32 n) (o32 i, mr1) = some (.inl (o32 (i + 1), mr2)) := by
            unfold lX9_stands_61
            dsimp only
            rw [if_neg ni, k2', Option.bind_some, if_neg (by rw [o_le (by omega) (by omega)]; omega), g2, Option.bind_some, o_s]
          rw [lp_i x1, lp_i x2]
          exact ih (i + 1) u v m2 mr2 (by omega) (by omega) (by omega) (CF_tr c1 g4) (MF_tr c2 g5) g3 g6
    exact go n 0 fu fu m' m0 (by omega) (lt_fu (by omega)) (lt_fu (by omega)) C MF_rf ⟨r, al, f, q, W2⟩ t0
  · rw [if_neg (by rw [show (9999 : Int32) = o32 9999 from rfl, o_le (by omega) (by omega)]; exact c), if_neg (by rw [show (9999 : Int32) = o32 9999 from rfl, o_le (by omega) (by omega)]; exact c)]
    exact err3 hh

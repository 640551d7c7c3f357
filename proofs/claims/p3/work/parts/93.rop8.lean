/-! GASES, CHECK, FIRST, UNTELL -/
theorem gases_o {mc mr : Mem} (h : RLx mc mr) (x : Int32) : Sm (fX8_gases x mc) (fX9_gases x mr) := by
  have hh := h
  obtain ⟨⟨r, al, f, q, w⟩, _, _, hs, _⟩ := h
  unfold fX8_gases fX9_gases
  rcases shb x with ⟨a1, a2⟩ | ⟨s, s1, s2, s3, s4⟩
  · rw [if_pos a1, a2, Option.bind_some, if_pos rfl]
    exact err1 hh
  · have is := o_inb s1 (show s < 2147483648 by omega)
    have ts : (o32 s).toNatClampNeg = s := o_tn (by omega)
    obtain ⟨⟨t, t1, t2, t3⟩, ⟨n, n1, n2, n3⟩, q3⟩ := hs s s1
    have A2 : mc 129 (o32 s).toNatClampNeg = o32 t := by rw [ts]; exact t2
    have A3 : mr 151 (o32 s).toNatClampNeg = o32 t := by rw [ts]; exact t3
    rw [s3, s4, if_neg one0, Option.bind_some, if_neg one0, s2, if_pos is, if_pos is, A2, A3]
    by_cases z1 : o32 t = 0
    · rw [if_pos z1, if_pos z1]
      exact err2 hh
    rw [if_neg z1, if_neg z1]
    apply Sm_of
    refine lp_twi (bs := lX8_gases_35 (o32 s)) (bt := lX9_gases_34 (o32 s)) (fun a b => ∃ i k f', i ≤ 16 ∧ k ≤ n ∧ a.1 = o32 k ∧ a.2.1 = o32 i ∧ b.1 = o32 k ∧ b.2.1 = o32 i ∧ WS 0 a.2.2 (b.2.2 138) r al f' q ∧ (∀ c j, c ≠ cw 0 4 → a.2.2 c j = mc c j) ∧ ∀ c j, c ≠ 138 → b.2.2 c j = mr c j) (fun a => 16 - a.2.1.toNatClampNeg) (fun e g => e.1 = g.1 ∧ RLx e.2 g.2) (fun a b hJ => ?_) fu fu (0, 0, mc) (0, 0, mr) ⟨0, 0, f, by omega, by omega, rfl, rfl, rfl, rfl, w, fun _ _ _ => rfl, fun _ _ _ => rfl⟩ (lt_fu (by show 16 - _ < _; omega)) (lt_fu (by show 16 - _ < _; omega))
    obtain ⟨i, k, f', i16, kn, j1, j2, j3, j4, j5, j6, j7⟩ := hJ
    have R : RLx a.2.2 b.2.2 := RL_k hh ⟨r, al, f', q, j5⟩ (fun c j hc => j6 c j (by unfold cw; omega)) (fun c j hc => j7 c j (by omega))
    have N2 : a.2.2 130 (o32 s).toNatClampNeg = o32 n := by rw [ts, j6 _ _ (by unfold cw; omega)]; exact n2
    have N3 : b.2.2 152 (o32 s).toNatClampNeg = o32 n := by rw [ts, j7 _ _ (by omega)]; exact n3
    unfold lX8_gases_35 lX9_gases_34
    rw [j1, j2, j3, j4, N2, N3]
    by_cases i6 : i = 16
    · right
      rw [if_pos (by rw [i6]; decide), if_pos (by rw [i6]; decide)]
      exact ⟨_, _, rfl, rfl, rfl, R⟩
    have hi : i < 16 := by omega
    rw [if_neg (not_16 hi), if_neg (not_16 hi)]
    simp only [if_pos is]
    by_cases kn2 : k = n
    · right
      rw [if_pos (by rw [o_le (by omega) (by omega)]; omega), if_pos (by rw [o_le (by omega) (by omega)]; omega)]
      exact ⟨_, _, rfl, rfl, rfl, R⟩
    have nk : ¬ o32 n ≤ o32 k := by rw [o_le (by omega) (by omega)]; omega
    have dec : 16 - (o32 (i + 1)).toNatClampNeg < 16 - (o32 i).toNatClampNeg := by rw [o_tn (by omega), o_tn (by omega)]; omega
    rw [if_neg nk, if_neg nk, has_c (WS_4 j5) hi, is_s hi (WS_3 j5), Option.bind_some, o_s]
    cases ai : al i with
    | false =>
      left
      rw [if_pos (show i01 false = 0 from rfl), if_pos (show i01 false = 0 from rfl)]
      exact ⟨_, _, rfl, rfl, ⟨i + 1, k, f', by omega, kn, rfl, rfl, rfl, rfl, j5, j6, j7⟩, dec⟩
    | true =>
      have ei : (24 : Int32) * o32 s + o32 k = o32 (24 * s + k) := by
        show o32 24 * o32 s + o32 k = _
        rw [o_mul, o_add]
      have V : b.2.2 153 (o32 (24 * s + k)).toNatClampNeg = a.2.2 (132 + (o32 s).toNatClampNeg) (o32 k).toNatClampNeg := by
        rw [o_tn (by omega), ts, o_tn (by omega), j7 _ _ (by omega), j6 _ _ (by unfold cw; omega)]
        exact (q3 k (by omega)).symm
      rw [if_neg (show ¬ i01 true = 0 by decide), if_neg (show ¬ i01 true = 0 by decide), if_pos (o_inb (show k < 24 by omega) (by omega)), ei, if_pos (o_inb (show 24 * s + k < 96 by omega) (by omega)), V, wi_eq]
      generalize a.2.2 (132 + (o32 s).toNatClampNeg) (o32 k).toNatClampNeg = v
      rcases win (l := 0) (h := 99999) (by omega) (by omega) v with z | ⟨p, _, p2, p3, p4⟩
      · right
        rw [if_pos (show fX9_within v 0 99999 = 0 from z), if_pos (show fX9_within v 0 99999 = 0 from z)]
        exact ⟨_, _, rfl, rfl, rfl, R⟩
      · left
        have z : ¬ fX9_within v 0 99999 = 0 := by rw [show fX9_within v 0 99999 = 1 from p4]; exact one0
        have W2 := WS_fld (v := p) j5 hi (by omega) (show 2 ≤ 4 by omega) p2
        rw [if_neg z, if_neg z, if_pos (o_inb hi (by omega)), show fX9_tells (o32 i) 2 v b.2.2 = _ from tl_o (f := 2) hi (by omega), Option.bind_some, o_tn (show i < 2147483648 by omega), o_s, p3]
        refine ⟨_, _, rfl, rfl, ⟨i + 1, k + 1, _, by omega, by omega, rfl, rfl, rfl, rfl, W2, fun c j hc => ?_, fun c j hc => ?_⟩, ?_⟩
        · dsimp only
          rw [mput_c _ _ _ hc]
          exact j6 c j hc
        · dsimp only
          rw [mput_c _ _ _ hc]
          exact j7 c j hc
        · dsimp only
          rw [o_tn (show i + 1 < 2147483648 by omega)]
          omega
theorem check_o {mc mr : Mem} (h : RLx mc mr) (x : Int32) : Sm (fX8_check x mc) (fX9_check x mr) := by
  have hh := h
  obtain ⟨⟨r, al, f, q, w⟩, _⟩ := h
  obtain ⟨t1, t2, ⟨n, n1, n2, n3⟩, t4⟩ := WS_8 w
  have W2 : WS 0 (mput mc (cw 0 1) 5 0) (mput mr 138 2 0 138) r al f q := by
    refine WS_tp w (fun o j ho h1 h2 h3 => ?_) (fun j h1 h2 h3 => ?_) ⟨?_, fun i hi => ?_, ⟨0, by omega, ?_, ?_⟩, fun i hi => ?_⟩
    · rw [mput_get, if_neg (fun z => h1 ⟨cw_inj z.1, .inr z.2⟩)]
    · rw [mput_get, if_neg (by omega)]
    · rw [mput_get, if_neg (by omega), mput_j _ _ _ _ (by omega)]
      exact t1
    · rw [mput_get, if_neg (by omega), mput_c _ _ _ (cw_ne (by omega))]
      exact t2 i hi
    · rw [mput_at]; rfl
    · rw [mput_at]; rfl
    · rw [mput_get, if_neg (by omega), mput_c _ _ _ (cw_ne (by omega))]
      exact t4 i hi
  have R2 : RLx (mput mc (cw 0 1) 5 0) (mput mr 138 2 0) := RL_k hh ⟨r, al, f, q, W2⟩ (CK_CF (CF_put (by omega) (by omega))) (MK_MF (MF_put (by omega)))
  have tp := (WS_8 W2).2.2.2
  unfold fX8_check fX9_check
  rw [n2, n3]
  generalize mput mc (cw 0 1) 5 0 = m1 at *
  generalize mput mr 138 2 0 = mr1 at *
  rcases isb W2 x with ⟨a1, a2⟩ | ⟨a, a1, a2, a3, a4, a5⟩
  · rw [if_pos a1, a2, Option.bind_some, if_pos rfl]
    exact err1 R2
  · have ga := CS_g (WS_4 W2) a1 a3
    have Ra := ((WS_3 W2) a a1).2 a3
    have la := ga.1
    rw [a4, a5, if_neg one0, Option.bind_some, if_neg one0, a2, if_pos (o_inb a1 (by omega)), sd_c W2 a1 a3, leastIn_s a1 Ra, Option.bind_some]
    apply Sm_of
    refine lp_twi (bs := lX8_check_52 (o32 a) (o32 n) (o32 (r a).length) m1) (bt := lX9_check_38 (o32 a) (o32 n) (o32 (lsI (r a) ((r a).length - 1))) mr1) (fun s t => ∃ i, i ≤ n ∧ i ≤ (r a).length ∧ s = o32 i ∧ t = o32 i) (fun s => 100 - s.toNatClampNeg) (fun e g => e.1 = g.1 ∧ RLx e.2 g.2) (fun s t hJ => ?_) fu fu 0 0 ⟨0, by omega, by omega, rfl, rfl⟩ (lt_fu (by show 100 - _ < _; omega)) (lt_fu (by show 100 - _ < _; omega))
    obtain ⟨i, i1, i2, rfl, rfl⟩ := hJ
    have ex : ∃ e g, ((bX8_check_96 (o32 n) (o32 (r a).length) (o32 i) m1).map (Sum.inr : Int32 × Mem → Int32 ⊕ (Int32 × Mem))) = some (.inr e) ∧ ((bX9_check_83 (o32 a) (o32 n) (o32 i) mr1).map (Sum.inr : Int32 × Mem → Int32 ⊕ (Int32 × Mem))) = some (.inr g) ∧ e.1 = g.1 ∧ RLx e.2 g.2 := by
      unfold bX8_check_96 bX9_check_83
      rw [sd_m W2 a1 a3, Option.bind_some]
      by_cases c1 : o32 i = o32 n
      · rw [if_pos c1, if_pos c1]
        by_cases c2 : o32 i = o32 (r a).length
        · rw [if_pos c2, if_pos c2]
          exact ⟨_, _, rfl, rfl, rfl, R2⟩
        · rw [if_neg c2, if_neg c2]
          exact ⟨_, _, rfl, rfl, rfl, R2⟩
      · rw [if_neg c1, if_neg c1]
        exact ⟨_, _, rfl, rfl, rfl, R2⟩
    unfold lX8_check_52 lX9_check_38
    rw [sd_m W2 a1 a3, Option.bind_some]
    by_cases c1 : i = n
    · right
      rw [if_pos (by rw [o_le (by omega) (by omega)]; omega), if_pos (by rw [o_le (by omega) (by omega)]; omega)]
      exact ex
    have d1 : ¬ o32 n ≤ o32 i := by rw [o_le (by omega) (by omega)]; omega
    rw [if_neg d1, if_neg d1]
    by_cases c2 : i = (r a).length
    · right
      have d2 : o32 (r a).length ≤ o32 i := by rw [o_le (by omega) (by omega)]; omega
      rw [if_pos d2, if_pos d2]
      exact ex
    have d2 : ¬ o32 (r a).length ≤ o32 i := by rw [o_le (by omega) (by omega)]; omega
    rw [if_neg d2, if_neg d2, if_pos (o_inb (show i < 24 by omega) (by omega)), toldAt_c a1 ga (by omega) (by omega), Option.bind_some, show (872 : Int32) + o32 i = o32 (872 + i) from o_add 872 i, if_pos (o_inb (show 872 + i < 1082 by omega) (by omega)), told_m2 a1 Ra (by omega) (by omega), Option.bind_some, o_tn (show i < 2147483648 by omega), o_tn (show 872 + i < 2147483648 by omega), tp i (by omega)]
    by_cases c3 : m1 (cw 0 37) i = o32 (tolD (r a) i)
    · left
      rw [if_pos c3, if_pos c3, o_s]
      exact ⟨_, _, rfl, rfl, ⟨i + 1, by omega, by omega, rfl, rfl⟩, by rw [o_tn (show i + 1 < 2147483648 by omega)]; omega⟩
    · right
      rw [if_neg c3, if_neg c3]
      exact ex
/-- a TEXT changed alike -/
theorem WS_txt {k u : Nat} {m m' mr mr' : Mem} {r : Nat → List Nat} {al : Nat → Bool} {f : Nat → Nat → Nat} {q : Nat → List Nat} {l : List Nat} (h : WS k m (mr 138) r al f q) (hu : u < 3) (e : ∀ o j, rc k (cw k o) → o ≠ 27 + 3 * u → o ≠ 28 + 3 * u → m' (cw k o) j = m (cw k o) j) (e2 : ∀ j, ¬ (896 + 62 * u ≤ j ∧ j < 896 + 62 * u + 62) → mr' 138 j = mr 138 j) (t : TR k m' (mr' 138) u l) : WS k m' (mr' 138) r al f (fun v => if v = u then l else q v) := by
  obtain ⟨a1, a2, a3, a4, a5, a6, a7, a8⟩ := h
  have ee : ∀ o j, ((1 ≤ o ∧ o ≤ 7) ∨ (9 ≤ o ∧ o ≤ 24) ∨ o = 36 ∨ o = 37) → m' (cw k o) j = m (cw k o) j := fun o j ho => e o j ⟨o, rfl, by omega⟩ (by omega) (by omega)
  refine ⟨a1, a2, RS_w a3 (fun b hb g hg => e2 _ (by omega)), CS_same a4 (fun c z hc => ?_), FR_same a5 (fun o z h1 h2 => ee o z (by omega)) (fun z h1 h2 => e2 z (by omega)), fun v hv => ?_, SC_same a7 (fun o z ho => ee o z (by omega)) (fun z h1 h2 h3 => e2 z (by omega)), ?_⟩
  · rcases hc with hc | hc | ⟨x, hx, hc⟩
    · rw [hc.1]; exact ee 2 z (by omega)
    · rw [hc]; exact ee 7 z (by omega)
    · rw [hc]; exact ee (9 + x) z (by omega)
  · dsimp only
    by_cases ev : v = u
    · subst ev
      rw [if_pos rfl]
      exact t
    · rw [if_neg ev]
      obtain ⟨h1, h2, h3, h4, h5, h6⟩ := a6 v hv
      refine ⟨h1, h2, h3, by rw [e2 _ (by omega)]; exact h4, by rw [e _ _ ⟨_, rfl, by omega⟩ (by omega) (by omega)]; exact h5, fun i hi => ?_⟩
      rw [e2 _ (by omega), e _ _ ⟨_, rfl, by omega⟩ (by omega) (by omega)]
      exact h6 i hi
  · obtain ⟨h1, h2, h3, h4⟩ := a8
    refine ⟨?_, fun i hi => ?_, ?_, fun i hi => ?_⟩
    · rw [e2 1 (by omega), ee 1 3 (by omega)]; exact h1
    · rw [e2 _ (by omega), ee 36 i (by omega)]; exact h2 i hi
    · rw [e2 2 (by omega), ee 1 5 (by omega)]; exact h3
    · rw [e2 _ (by omega), ee 37 i (by omega)]; exact h4 i hi

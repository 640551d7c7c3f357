/-! SHEETS -/
theorem RL_sh {mc mc' mr mr' : Mem} (h : RLx mc mr) (e1 : ∀ c j, ¬ (129 ≤ c ∧ c ≤ 135) → mc' c j = mc c j) (e2 : ∀ c j, ¬ (151 ≤ c ∧ c ≤ 154) → mr' c j = mr c j) (s : SHT mc' mr') : RLx mc' mr' := by
  obtain ⟨h1, h2, h3, h4, h5, h6⟩ := h
  have f2 : ∀ c, ¬ (151 ≤ c ∧ c ≤ 154) → mr' c = mr c := fun c hc => funext (fun j => e2 c j hc)
  refine ⟨?_, ?_, fun hz => ?_, s, ?_, ?_⟩
  · rw [f2 138 (by omega)]
    exact WR_off h1 (fun c j hc => e1 c j (by have := rc_le hc; omega))
  · rw [e1 0 8 (by omega), e2 137 3 (by omega)]; exact h2
  · rw [e1 0 8 (by omega)] at hz
    rw [f2 139 (by omega)]
    exact WR_off (h3 hz) (fun c j hc => e1 c j (by have := rc_le hc; omega))
  · rw [e1 125 1 (by omega)]; exact h5
  · rw [e2 137 19 (by omega)]; exact h6
theorem shb (x : Int32) : (fX4_isOne x = 0 ∧ fX9_isSheet x = some 0) ∨ ∃ s, s < 4 ∧ x = o32 s ∧ fX4_isOne x = 1 ∧ fX9_isSheet x = some 1 := by
  have e : fX4_isOne x = fX9_within x 0 3 := by
    unfold fX4_isOne fX9_within
    have q : (4 : Int32) ≤ x ↔ 3 < x := by
      rw [Int32.le_iff_toInt_le, Int32.lt_iff_toInt_lt]
      have a : (4 : Int32).toInt = 4 := by decide
      have b : (3 : Int32).toInt = 3 := by decide
      omega
    by_cases c1 : x < 0
    · rw [if_pos c1, if_pos c1]
    · rw [if_neg c1, if_neg c1]
      by_cases c2 : 3 < x
      · rw [if_pos (q.mpr c2), if_pos c2]
      · rw [if_neg (fun z => c2 (q.mp z)), if_neg c2]
  rw [e]
  unfold fX9_isSheet
  rcases win (l := 0) (h := 3) (by omega) (by omega) x with z | ⟨n, _, n2, n3, n4⟩
  · rw [show fX9_within x 0 3 = 0 from z, if_pos (.inl rfl)]
    exact .inl ⟨rfl, rfl⟩
  · rw [show fX9_within x 0 3 = 1 from n4, if_pos (.inr rfl)]
    exact .inr ⟨n, by omega, n3, rfl, rfl⟩
theorem fill24 (c : Nat) (x : Int32) (m : Mem) : fJ7_fill_53178_24 c x m = some (flM m c 24 x) := by
  unfold fJ7_fill_53178_24
  have st := lp_fwd (body := lJ7_fill_53178_24_5 c x 24) (e := flM m c 24 x) 24 (fun j => (o32 j, flM m c j x)) fu (fun j hj => ?_) ?_ (lt_fu (by omega))
  · rw [flM_0] at st
    exact st
  · unfold lJ7_fill_53178_24_5
    dsimp only
    rw [if_neg (by rw [show (24 : Int32) = o32 24 from rfl, o_le (by omega) (by omega)]; omega), if_pos (o_inb hj (by omega)), o_tn (by omega), o_s, flM_s]
  · unfold lJ7_fill_53178_24_5
    rfl
def zrM (m : Mem) (a n : Nat) : Mem := fun c j => if c = 153 ∧ a ≤ j ∧ j < a + n then 0 else m c j
theorem zr_lp {m : Mem} {s : Nat} (hs : s < 4) : lp (lX9_sheet_93 (o32 s)) fu (0, m) = some (1, zrM m (24 * s) 24) := by
  have ei : ∀ i, (24 : Int32) * o32 s + o32 i = o32 (24 * s + i) := fun i => by
    show o32 24 * o32 s + o32 i = _
    rw [o_mul, o_add]
  have e0 : zrM m (24 * s) 0 = m := by
    funext c j
    unfold zrM
    rw [if_neg (by omega)]
  have st := lp_fwd (body := lX9_sheet_93 (o32 s)) (e := (1, zrM m (24 * s) 24)) 24 (fun i => (o32 i, zrM m (24 * s) i)) fu (fun i hi => ?_) ?_ (lt_fu (by omega))
  · rw [e0] at st
    exact st
  · unfold lX9_sheet_93
    dsimp only
    rw [if_neg (by rw [show (24 : Int32) = o32 24 from rfl, o_le (by omega) (by omega)]; omega), ei, if_pos (o_inb (by omega) (by omega)), o_tn (by omega), o_s]
    congr 3
    funext c j
    rw [mput_get]
    unfold zrM
    by_cases c1 : c = 153
    · subst c1
      simp only [true_and]
      (repeat' split) <;> first | rfl | (exfalso; omega)
    · simp only [c1, false_and, ↓reduceIte]
  · unfold lX9_sheet_93
    dsimp only
    rw [if_pos (show (24 : Int32) ≤ o32 24 by decide)]
theorem sheet_o {mc mr : Mem} (h : RLx mc mr) (x y z : Int32) : Sm (fX8_sheet x y z mc) (fX9_sheet x y z mr) := by
  have hh := h
  obtain ⟨_, _, _, hs, _⟩ := h
  unfold fX8_sheet fX9_sheet bX8_sheet_29 bX9_sheet_29
  rcases shb x with ⟨a1, a2⟩ | ⟨s, s1, s2, s3, s4⟩
  · rw [if_pos a1, a2, Option.bind_some, if_pos rfl]
    exact err1 hh
  · have is := o_inb s1 (show s < 2147483648 by omega)
    have ts : (o32 s).toNatClampNeg = s := o_tn (by omega)
    have go68 : ∀ t n, (t = 0 ∨ t = 8 ∨ t = 16 ∨ t = 32) → n ≤ 24 → y = o32 t → (y = 0 → n = 0) → (y ≠ 0 → z = o32 n) → Sm (bX8_sheet_65 (o32 s) y z mc) (bX9_sheet_68 (o32 s) y z mr) := fun t n ht hn hy h0 h1 => by
      have fin : Sm (bX8_sheet_80 (o32 s) y (o32 n) mc) (bX9_sheet_89 (o32 s) (o32 s) (o32 n) (mput mr 151 s y)) := by
        unfold bX8_sheet_80 bX9_sheet_89 fX4_lay
        rw [← s2, s3, if_neg one0, s2, if_pos is, if_pos is, if_pos is, if_pos is, ts, fill24, Option.bind_some, Option.bind_some, zr_lp s1]
        refine ⟨_, _, _, rfl, rfl, RL_sh hh (fun c j hc => ?_) (fun c j hc => ?_) (fun v hv => ?_)⟩
        · unfold flM
          rw [if_neg (by omega), mput_c _ _ _ (by omega), mput_c _ _ _ (by omega)]
        · unfold zrM
          rw [if_neg (by omega), mput_c _ _ _ (by omega), mput_c _ _ _ (by omega)]
        · obtain ⟨q1, q2, q3⟩ := hs v hv
          unfold flM zrM
          by_cases e : v = s
          · subst e
            refine ⟨⟨t, ht, ?_, ?_⟩, ⟨n, hn, ?_, ?_⟩, fun i hi => ?_⟩
            · rw [if_neg (by omega), mput_c _ _ _ (by omega), mput_at, hy]
            · rw [if_neg (by omega), mput_c _ _ _ (by omega), mput_at, hy]
            · rw [if_neg (by omega), mput_at]
            · rw [if_neg (by omega), mput_at]
            · rw [if_pos ⟨rfl, hi⟩, if_pos ⟨rfl, by omega, by omega⟩]
          · rw [if_neg (by omega), if_neg (by omega), if_neg (by omega), if_neg (by omega), mput_c _ _ _ (by omega), mput_j _ _ _ _ e, mput_c _ _ _ (by omega), mput_j _ _ _ _ e, mput_j _ _ _ _ e, mput_c _ _ _ (by omega), mput_j _ _ _ _ e, mput_c _ _ _ (by omega)]
            refine ⟨q1, q2, fun i hi => ?_⟩
            rw [if_neg (by omega), if_neg (by omega), mput_c _ _ _ (by omega), mput_c _ _ _ (by omega), mput_c _ _ _ (by omega), mput_c _ _ _ (by omega)]
            exact q3 i hi
      unfold bX8_sheet_65 bX9_sheet_68
      rw [if_pos is, ts]
      by_cases y0 : y = 0
      · rw [if_pos y0, if_pos y0]
        have := fin
        rw [h0 y0] at this
        exact this
      · rw [if_neg y0, if_neg y0, h1 y0]
        exact fin
    have go : ∀ t, (t = 0 ∨ t = 8 ∨ t = 16 ∨ t = 32) → y = o32 t → Sm (bX8_sheet_35 (o32 s) y z mc) (bX9_sheet_36 (o32 s) y z mr) := fun t ht hy => by
      unfold bX8_sheet_35 bX9_sheet_36 bX8_sheet_49 bX9_sheet_51
      by_cases y0 : y = 0
      · rw [if_pos y0, if_pos y0, if_pos y0, if_pos y0]
        exact go68 t 0 ht (by omega) hy (fun _ => rfl) (fun q => absurd y0 q)
      · rw [if_neg y0, if_neg y0]
        by_cases z0 : 0 ≤ z
        · rw [if_pos z0, if_pos z0, if_neg y0, if_neg y0]
          by_cases z24 : z ≤ 24
          · rw [if_pos z24, if_pos z24]
            rw [Int32.le_iff_toInt_le] at z0 z24
            have e0 : (0 : Int32).toInt = 0 := rfl
            have e24 : (24 : Int32).toInt = 24 := rfl
            exact go68 t z.toInt.toNat ht (by omega) hy (fun q => absurd q y0) (fun _ => i_eq (by omega) (by omega))
          · rw [if_neg z24, if_neg z24]
            exact err1 hh
        · rw [if_neg z0, if_neg z0, if_neg y0]
          exact err3 hh
    rw [s3, s4, if_neg one0, Option.bind_some, if_neg one0, s2]
    by_cases y0 : y = 0
    · rw [if_pos y0, if_pos y0]
      exact go 0 (by omega) y0
    · rw [if_neg y0, if_neg y0]
      by_cases y8 : y = 8
      · rw [if_pos y8, if_pos y8]
        exact go 8 (by omega) y8
      · rw [if_neg y8, if_neg y8]
        by_cases y16 : y = 16
        · rw [if_pos y16, if_pos y16]
          exact go 16 (by omega) y16
        · rw [if_neg y16, if_neg y16]
          by_cases y32 : y = 32
          · rw [if_pos y32, if_pos y32]
            exact go 32 (by omega) y32
          · rw [if_neg y32, if_neg y32]
            exact err1 hh
theorem rng {n : Nat} (hn : n < 100000) (y : Int32) : (∃ i, i < n ∧ y = o32 i ∧ ¬ y < 0 ∧ y < o32 n ∧ ¬ fX9_within y 0 (o32 n - 1) = 0) ∨ ((y < 0 ∨ ¬ y < o32 n) ∧ fX9_within y 0 (o32 n - 1) = 0) := by
  have e0 : (0 : Int32).toInt = 0 := by decide
  by_cases c : ∃ i, i < n ∧ y = o32 i
  · obtain ⟨i, i1, i2⟩ := c
    subst i2
    refine .inl ⟨i, i1, rfl, not_lt0 (by omega), by rw [o_lt (by omega) (by omega)]; exact i1, ?_⟩
    rw [show o32 n - 1 = o32 (n - 1) from o_sub (b := 1) (by omega) (by omega), show fX9_within (o32 i) 0 (o32 (n - 1)) = _ from within_o (l := 0) (by omega) (by omega) (by omega), if_pos (by omega)]
    decide
  · refine .inr ⟨?_, ?_⟩
    · by_cases y0 : y < 0
      · exact .inl y0
      · refine .inr (fun z => c ⟨y.toInt.toNat, ?_, ?_⟩)
        · rw [Int32.lt_iff_toInt_lt] at z y0
          rw [o_ti (by omega)] at z
          omega
        · rw [Int32.lt_iff_toInt_lt] at z y0
          rw [o_ti (by omega)] at z
          exact i_eq (by omega) (by omega)
    · by_cases l0 : n = 0
      · subst l0
        unfold fX9_within
        by_cases y0 : y < 0
        · rw [if_pos y0]
        · rw [if_neg y0, if_pos]
          rw [Int32.lt_iff_toInt_lt] at y0 ⊢
          have e1 : (o32 0 - 1 : Int32).toInt = -1 := by decide
          omega
      · rw [show o32 n - 1 = o32 (n - 1) from o_sub (b := 1) (by omega) (by omega)]
        rcases win (l := 0) (h := n - 1) (by omega) (by omega) y with z | ⟨i, _, n2, n3, _⟩
        · exact z
        · exact absurd ⟨i, by omega, n3⟩ c
theorem put_o {mc mr : Mem} (h : RLx mc mr) (x y z : Int32) : Sm (fX8_put x y z mc) (fX9_put x y z mr) := by
  have hh := h
  obtain ⟨_, _, _, hs, _⟩ := h
  unfold fX8_put fX9_put bX8_put_48
  rcases shb x with ⟨a1, a2⟩ | ⟨s, s1, s2, s3, s4⟩
  · rw [if_pos a1, a2, Option.bind_some, if_pos rfl]
    exact err1 hh
  · have is := o_inb s1 (show s < 2147483648 by omega)
    have ts : (o32 s).toNatClampNeg = s := o_tn (by omega)
    obtain ⟨⟨t, t1, t2, t3⟩, ⟨n, n1, n2, n3⟩, q3⟩ := hs s s1
    have t2' : mc 129 (o32 s).toNatClampNeg = o32 t := by rw [ts]; exact t2
    have t3' : mr 151 (o32 s).toNatClampNeg = o32 t := by rw [ts]; exact t3
    have n2' : mc 130 (o32 s).toNatClampNeg = o32 n := by rw [ts]; exact n2
    have n3' : mr 152 (o32 s).toNatClampNeg = o32 n := by rw [ts]; exact n3
    rw [s3, s4, if_neg one0, Option.bind_some, if_neg one0, s2, if_pos is, if_pos is, t2', t3']
    by_cases t0 : o32 t = 0
    · rw [if_pos t0, if_pos t0, if_pos is]
      exact err2 hh
    · rw [if_neg t0, if_neg t0, if_pos is, if_pos is, n2', n3']
      rcases rng (n := n) (by omega) y with ⟨i, i1, i2, i3, i4, i5⟩ | ⟨c1, c2⟩
      · rw [if_neg i3, if_pos i4, if_neg i5, if_pos is, if_pos is, i2]
        have ei : (24 : Int32) * o32 s + o32 i = o32 (24 * s + i) := by
          show o32 24 * o32 s + o32 i = _
          rw [o_mul, o_add]
        have fin : ∀ v : Int32, Sm ((bX4_set_57 s (o32 i) v mc).bind fun q7 => some (1, q7)) (bX9_put_96 (24 * o32 s + o32 i) v mr) := fun v => by
          unfold bX4_set_57 bX9_put_96
          rw [ei, if_pos (o_inb (by omega) (by omega)), if_pos (o_inb (by omega) (by omega)), o_tn (by omega), o_tn (by omega)]
          refine ⟨_, _, _, rfl, rfl, RL_sh hh (fun c j hc => by rw [mput_c _ _ _ (by omega)]) (fun c j hc => by rw [mput_c _ _ _ (by omega)]) (fun u hu => ?_)⟩
          obtain ⟨p1, p2, p3⟩ := hs u hu
          rw [mput_c _ _ _ (by omega), mput_c _ _ _ (by omega), mput_c _ _ _ (by omega), mput_c _ _ _ (by omega)]
          refine ⟨p1, p2, fun j hj => ?_⟩
          rw [mput_get, mput_get]
          by_cases e : u = s ∧ j = i
          · rw [if_pos (by omega), if_pos (by omega)]
          · rw [if_neg (by omega), if_neg (by omega)]
            exact p3 j hj
        unfold fX4_set
        rw [← s2, s3, s2, if_neg one0, if_neg (not_lt0 (by omega)), if_neg (by rw [show (24 : Int32) = o32 24 from rfl, o_le (by omega) (by omega)]; omega), if_pos is, if_pos is, t2']
        by_cases t8 : o32 t = 8
        · rw [if_pos t8, if_pos t8, ts]
          exact fin _
        · rw [if_neg t8, if_neg t8]
          by_cases t16 : o32 t = 16
          · rw [if_pos t16, if_pos t16, if_pos is, ts]
            exact fin _
          · rw [if_neg t16, if_neg t16, if_pos is, ts]
            exact fin _
      · rw [if_pos c2]
        rcases c1 with c1 | c1
        · rw [if_pos c1]
          exact err1 hh
        · by_cases y0 : y < 0
          · rw [if_pos y0]
            exact err1 hh
          · rw [if_neg y0, if_neg c1]
            exact err1 hh
theorem body_o {mc mr : Mem} (h : RLx mc mr) (x : Int32) : Df (fX8_body x mc) (fX9_body_ x mr) := by
  have hh := h
  obtain ⟨_, _, _, _, ⟨n, n1, n2⟩, p, p1, p2⟩ := h
  have A : ∃ v mc', fX8_body x mc = some (v, mc') ∧ (mc' = mc ∨ ∃ y, mc' = mput mc 136 2 y) := by
    unfold fX8_body bX8_body_15
    rw [n2]
    have no : ∃ v mc', ((fX8_no 2 mc).bind fun q1 => some (q1.1, q1.2)) = some (v, mc') ∧ (mc' = mc ∨ ∃ y, mc' = mput mc 136 2 y) := by
      rw [show fX8_no 2 mc = _ from no_c (i := 2) (by omega)]
      exact ⟨_, _, rfl, .inr ⟨_, rfl⟩⟩
    rcases rng (n := n) (by omega) x with ⟨i, i1, i2, i3, i4, i5⟩ | ⟨c1, c2⟩
    · rw [if_neg i3, if_pos i4, i2, if_pos (o_inb (by omega) (by omega))]
      exact ⟨_, _, rfl, .inl rfl⟩
    · by_cases y0 : x < 0
      · rw [if_pos y0]
        exact no
      · rw [if_neg y0, if_neg (c1.resolve_left y0)]
        exact no
  have B : ∃ v mr', fX9_body_ x mr = some (v, mr') ∧ (mr' = mr ∨ ∃ y, mr' = mput mr 141 2 y) := by
    unfold fX9_body_
    rw [p2]
    rcases rng (n := p) (by omega) x with ⟨i, i1, i2, i3, i4, i5⟩ | ⟨c1, c2⟩
    · rw [if_neg i5, i2, if_pos (o_inb (by omega) (by omega))]
      exact ⟨_, _, rfl, .inl rfl⟩
    · rw [if_pos c2, fnd_m (i := 2) (by omega) (by decide)]
      exact ⟨_, _, rfl, .inr ⟨_, rfl⟩⟩
  obtain ⟨v, mc', a1, a2⟩ := A
  obtain ⟨v', mr', b1, b2⟩ := B
  refine ⟨v, v', mc', mr', a1, b1, ?_⟩
  have eC : ∀ c j, c ≠ 136 → mc' c j = mc c j := fun c j hc => by
    rcases a2 with a2 | ⟨y, a2⟩
    · rw [a2]
    · rw [a2, mput_c _ _ _ hc]
  have eR : ∀ c j, c ≠ 141 → mr' c j = mr c j := fun c j hc => by
    rcases b2 with b2 | ⟨y, b2⟩
    · rw [b2]
    · rw [b2, mput_c _ _ _ hc]
  refine RL_k hh ?_ (fun c j hc => eC c j (by omega)) (fun c j hc => eR c j (by omega))
  rw [show mr' 138 = mr 138 from funext (fun j => eR 138 j (by omega))]
  exact WR_off hh.1 (fun c z hc => eC c z (by have := rc_le hc; omega))

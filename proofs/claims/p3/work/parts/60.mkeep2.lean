/-! all of THE FOAM's methods keep what must hold -/
theorem lift_s {q : Option (Int32 × Mem)} {m : Mem} (h : KI m) (e : ∃ v m', q = some (v, m') ∧ MI m' ∧ Fw m m') : ∃ v m', q = some (v, m') ∧ KI m' := by
  obtain ⟨v, m', e, M, F⟩ := e
  exact ⟨v, m', e, KI_Fw h M F⟩
theorem lift_z {q : Option (Int32 × Mem)} {m : Mem} (h : KI m) (e : ∃ v m', q = some (v, m') ∧ MI m' ∧ Fz m m') : ∃ v m', q = some (v, m') ∧ KI m' := by
  obtain ⟨v, m', e, M, F⟩ := e
  exact ⟨v, m', e, KI_Fw h M (Fw_Fz F)⟩
theorem k_turn {m : Mem} (x y : Int32) (h : KI m) : ∃ v m', fX9_turn x y m = some (v, m') ∧ KI m' := lift_z h (turn_op x y h.1)
theorem k_burst {m : Mem} (x y : Int32) (h : KI m) : ∃ v m', fX9_burst x y m = some (v, m') ∧ KI m' := lift_z h (burst_op x y h.1)
theorem k_vanish {m : Mem} (x : Int32) (h : KI m) : ∃ v m', fX9_vanish x m = some (v, m') ∧ KI m' := lift_z h (vanish_op x h.1)
theorem k_tick {m : Mem} (x : Int32) (h : KI m) : ∃ v m', fX9_tick x m = some (v, m') ∧ KI m' := lift_s h (tick_op x h.1 h.2.1 h.2.2.1)
theorem k_beside {m : Mem} (x y : Int32) (h : KI m) : ∃ v m', fX9_beside x y m = some (v, m') ∧ KI m' := lift_s h (beside_op x y h.1)
theorem k_end {m : Mem} (x y z : Int32) (h : KI m) : ∃ v m', fX9_end x y z m = some (v, m') ∧ KI m' := lift_s h (end_op x y z h.1)
theorem k_can {m : Mem} (x y z : Int32) (h : KI m) : ∃ v m', fX9_can x y z m = some (v, m') ∧ KI m' := lift_s h (can_op x y z h.1)
theorem k_passes {m : Mem} (x y : Int32) (h : KI m) : ∃ v m', fX9_passes x y m = some (v, m') ∧ KI m' := lift_s h (passes_op x y h.1 h.2.1)
theorem k_pace {m : Mem} (x : Int32) (h : KI m) : ∃ v m', fX9_pace x m = some (v, m') ∧ KI m' := lift_s h (pace_op x h.1)
theorem k_seed {m : Mem} (x : Int32) (h : KI m) : ∃ v m', fX9_seed x m = some (v, m') ∧ KI m' := lift_s h (seed_op x h.1)
theorem foam_op {m : Mem} (x y g : Int32) (h : KI m) : ∃ v m', fX9_foam x y g m = some (v, m') ∧ KI m' := by
  have no : ∃ v m', bX9_foam_28 m = some (v, m') ∧ KI m' := by
    unfold bX9_foam_28
    exact KF_1 h
  by_cases q1 : fX9_within x 1 4 = 0
  · unfold fX9_foam
    rw [if_pos q1]
    exact no
  by_cases q2 : fX9_within y 1 4 = 0
  · unfold fX9_foam
    rw [if_neg q1, if_pos q2]
    exact no
  by_cases q3 : fX9_within g 0 99999 = 0
  · unfold fX9_foam
    rw [if_neg q1, if_neg q2, if_pos q3]
    exact no
  obtain ⟨w, w1, w4, ew⟩ := within_lh (l := 1) (h := 4) (by omega) (by omega) q1
  obtain ⟨k, k1, k4, ek⟩ := within_lh (l := 1) (h := 4) (by omega) (by omega) q2
  subst ew ek
  obtain ⟨m', e, S, _, _, _, fr⟩ := foam_s (m := m) w1 w4 k1 k4 q3
  obtain ⟨G, F, _⟩ := foam_Gr w1 w4 k1 k4
  exact ⟨_, m', e, KI_Fw h ⟨_, _, G, F, S⟩ ⟨fun c j a1 _ _ _ _ _ => fr c j (fun z => a1 z.1), fun j hj => fr 138 j (by omega)⟩⟩
theorem feed_op {m : Mem} (x : Int64) (y : Int32) (h : KI m) : ∃ v m', fX9_feed x y m = some (v, m') ∧ KI m' := by
  unfold fX9_feed
  by_cases q : fX9_within y 1 8 = 0
  · rw [if_pos q]
    exact KF_1 h
  · rw [if_neg q]
    obtain ⟨n, n1, n8, e⟩ := within_lh (l := 1) (h := 8) (by omega) (by omega) q
    subst e
    have h0 := h
    obtain ⟨_, _, _, ⟨t, t1, t2⟩, _⟩ := h
    rw [t2, o_add]
    by_cases hq : t + n ≤ 60
    · rw [if_pos (show o32 (t + n) ≤ 60 from (o_le (b := 60) (by omega) (by omega)).mpr hq)]
      have key := lp_ix (body := lX9_feed_40 x (o32 n)) (fun i s => s.1 = o32 i ∧ KI s.2 ∧ s.2 138 1 = o32 (t + i)) (fun e => KI e.2) n 0 ((0 : Int32), m) fu ⟨rfl, h0, t2⟩ (fun i s _ hi hI => ?_) (fun s hI => ?_) (lt_fu (by omega))
      · obtain ⟨⟨v, m'⟩, e1, e2⟩ := key
        exact ⟨v, m', e1, e2⟩
      · obtain ⟨s1, s2⟩ := s
        obtain ⟨e1, hK, et⟩ := hI
        dsimp only at e1 hK et
        subst e1
        have ea : (812 : Int32) + o32 (t + i) = o32 (812 + (t + i)) := o_add 812 (t + i)
        unfold lX9_feed_40
        dsimp only
        have hb : inb (812 + s2 138 1) 1082 := by
          rw [et, ea]
          exact o_inb (by omega) (by omega)
        have tn : (812 + s2 138 1).toNatClampNeg = 812 + (t + i) := by
          rw [et, ea]
          exact o_tn (by omega)
        rw [if_neg (fun z => by have := (o_le (by omega) (by omega)).mp z; omega), if_pos hb, tn]
        have key : ∀ v, KI (mput (mput s2 138 (812 + (t + i)) v) 138 1 (mput s2 138 (812 + (t + i)) v 138 1 + 1)) ∧ mput (mput s2 138 (812 + (t + i)) v) 138 1 (mput s2 138 (812 + (t + i)) v 138 1 + 1) 138 1 = o32 (t + (i + 1)) := fun v => by
          have K := KI_put (v := v) hK (j := 812 + (t + i)) (by omega)
          obtain ⟨p1, p2, p3, _, k, k1, k2⟩ := K
          have e9 : mput (mput s2 138 (812 + (t + i)) v) 138 1 (mput s2 138 (812 + (t + i)) v 138 1 + 1) 138 1 = o32 (t + (i + 1)) := by
            rw [mput_get, if_pos ⟨rfl, rfl⟩, mput_get, if_neg (by omega), et, o_s]
            rfl
          refine ⟨⟨MI_far (by omega) p1, TX_same p2 (fun j hj => by rw [mput_get, if_neg (by omega)]), ?_, ⟨t + (i + 1), by omega, e9⟩, k, k1, by rw [mput_get, if_neg (by omega)]; exact k2⟩, e9⟩
          unfold OD
          rw [mput_get, if_neg (by omega)]
          exact p3
        exact ⟨_, rfl, by show o32 i + 1 = _; rw [o_s], (key _).1, (key _).2⟩
      · obtain ⟨s1, s2⟩ := s
        obtain ⟨e1, hK, et⟩ := hI
        dsimp only at e1 hK et
        subst e1
        refine ⟨(s2 138 1, s2), ?_, hK⟩
        unfold lX9_feed_40
        dsimp only
        rw [if_pos ((o_le (by omega) (by omega)).mpr (by omega))]
    · rw [if_neg (show ¬ o32 (t + n) ≤ 60 from fun w => hq ((o_le (b := 60) (by omega) (by omega)).mp w))]
      exact KF_4 h0
